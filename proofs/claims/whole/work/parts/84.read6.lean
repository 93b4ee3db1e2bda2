section G
variable {c0 d0 : St} {K nt o n : Nat} {tp : Nat → Nat} {rcE rcO : Nat → St → Int32 → Option (Bool × St)} {rcO' rcE' : Nat → St → Option St}
theorem sumSM (hn5 : 5000 < n) (H : WP c0 d0 K nt tp) (hs : SM c0 d0 K nt tp vx (fun c => fX5_readProductg rcE rcO n c (nI o)) (fun d => fX12_productg rcO' rcE' n d) o) : SM c0 d0 K nt tp vx (fun c => fX5_readSumg rcE rcO n c (nI o)) (fun d => fX12_sumg rcO' rcE' n d) o := by
  have hn := H.1
  have loop : SM c0 d0 K nt tp vx1 (fun c => fX5_readSumg_10 rcE rcO n n c (nI o)) (fun d => fX12_sumg_4 rcO' rcE' n n d) o := by
    refine loopSM hn5 H hs (fun x => x == 43 || x == 45) (fun x hx => ?_) (fun x hx => ?_) (fun k c => fX5_readSumg_10 rcE rcO n k c (nI o)) (fun k d => fX12_sumg_4 rcO' rcE' n k d) (fun k c a hq ha hz => ?_) (fun k c a hq ha hz => ?_) (fun k d hf => ?_) (fun k d a TL hd ha hz => ?_) (fun k d a TL hd ha hz => ?_)
    · simp only [Bool.or_eq_true, beq_iff_eq] at hx
      rcases hx with rfl | rfl <;> exact ⟨rfl, by omega⟩
    · unfold dig at hx
      simp only [Bool.or_eq_false_iff, beq_eq_false_iff_ne]
      omega
    · simp only [Bool.or_eq_false_iff, beq_eq_false_iff_ne] at hz
      show fX5_readSumg_10 rcE rcO n (k + 1) c (nI o) = _
      rw [fX5_readSumg_10]
      by_cases z : a < nt
      · obtain ⟨e1, e2, e3, e4, e5, e6⟩ := ch_eqs H hq z
        rw [e1, e2, if_neg (nI_ge z (by omega)), e3, gd_true, gd_true, e4, e5, if_neg (show ¬ nI (ch tp nt a) = 43 from fun q => hz.1 (by rw [show (43 : Int32) = nI 43 from rfl, nIeq (by omega) (by omega)] at q; exact q)), if_neg (show ¬ nI (ch tp nt a) = 45 from fun q => hz.2 (by rw [show (45 : Int32) = nI 45 from rfl, nIeq (by omega) (by omega)] at q; exact q))]
      · obtain ⟨l1, l2, l3⟩ := CB_len H hq.1
        rw [l1, hq.2, if_pos (nI_le (by omega) (by omega))]
    · simp only [Bool.or_eq_true, beq_iff_eq] at hz
      have z : a < nt := by
        apply Classical.byContradiction
        intro y
        unfold ch at hz
        rw [if_neg y] at hz
        omega
      obtain ⟨e1, e2, e3, e4, e5, e6⟩ := ch_eqs H hq z
      have body : fX5_readSumg_49 (fX5_readSumg_10 rcE rcO n k) rcE rcO n c (nI o) = (fX5_readProductg rcE rcO n (sI c 21 2 (nI (a + 1))) (nI o)).bind (fun r => if bI r.1 = 0 then some (false, r.2) else (fX5_add r.2 (sg (ch tp nt a, 0))).bind (fun r' => fX5_readSumg_10 rcE rcO n k r' (nI o))) := by
        unfold fX5_readSumg_49 fX5_readSumg_70
        rw [bnd_x, bnd_x, e2, nI_1, e3, gd_true, e4, e5]
        rcases hz with hz | hz
        · rw [hz, if_pos (show nI 43 = 43 from rfl), show sg (43, 0) = -12 by decide]
        · rw [hz, if_neg (show ¬ nI 45 = 43 by decide), show sg (45, 0) = -13 by decide]
      show fX5_readSumg_10 rcE rcO n (k + 1) c (nI o) = _
      rw [fX5_readSumg_10, body, e1, e2, if_neg (nI_ge z (by omega)), e3, gd_true, gd_true, e4, e5]
      rcases hz with hz | hz
      · rw [hz, if_pos (show nI 43 = 43 from rfl)]
      · rw [hz, if_neg (show ¬ nI 45 = 43 by decide), if_pos (show nI 45 = 45 from rfl)]
    · show fX12_sumg_4 rcO' rcE' n (k + 1) d = _
      rw [fX12_sumg_4, if_pos hf]
    · simp only [Bool.or_eq_false_iff, beq_eq_false_iff_ne] at hz
      show fX12_sumg_4 rcO' rcE' n (k + 1) d = _
      rw [fX12_sumg_4, if_neg (PD_f hd), d_look H hd.1 hd.2.1 ha, Option.bind_some, Option.bind_some, if_neg (show ¬ lkv tp nt a = 43 from fun q => hz.1 ((lkv_eq H a 43 (by omega)).mp q)), if_neg (show ¬ lkv tp nt a = 45 from fun q => hz.2 ((lkv_eq H a 45 (by omega)).mp q))]
    · simp only [Bool.or_eq_true, beq_iff_eq] at hz
      have el : lkv tp nt a = nI (ch tp nt a) := (lkv_eq H a _ (by omega)).mpr rfl
      have body : fX12_sumg_29 (fX12_sumg_4 rcO' rcE' n k) rcO' rcE' n d = (fX12_productg rcO' rcE' n (sI d 0 26 (nI (a + 1)))).bind (fun r => (fX12_addStep r (nI (ch tp nt a)) 0).bind (fun r' => fX12_sumg_4 rcO' rcE' n k r')) := by
        unfold fX12_sumg_29
        rw [d_look H hd.1 hd.2.1 ha, Option.bind_some, bnd_x, hd.2.1, nI_1, el]
      show fX12_sumg_4 rcO' rcE' n (k + 1) d = _
      rw [fX12_sumg_4, body, if_neg (PD_f hd), d_look H hd.1 hd.2.1 ha, Option.bind_some, Option.bind_some, el]
      rcases hz with hz | hz
      · rw [hz, if_pos (show nI 43 = 43 from rfl)]
      · rw [hz, if_neg (show ¬ nI 45 = 43 by decide), if_pos (show nI 45 = 45 from rfl)]
  refine seqSM H hs loop (fun c a hq ha hz => ?_) (fun d a l hg ha => ?_)
  · obtain ⟨n', rfl⟩ : ∃ n', n = n' + 1 := ⟨n - 1, by omega⟩
    obtain ⟨z, z1, z2⟩ := dig_lt hz
    obtain ⟨e1, e2, e3, e4, e5, e6⟩ := ch_eqs H hq z
    unfold dig at hz
    show fX5_readSumg_10 rcE rcO (n' + 1) (n' + 1) c (nI o) = _
    rw [fX5_readSumg_10, e1, e2, if_neg (nI_ge z (by omega)), e3, gd_true, gd_true, e4, e5, if_neg (show ¬ nI (ch tp nt a) = 43 from fun q => by rw [show (43 : Int32) = nI 43 from rfl, nIeq (by omega) (by omega)] at q; omega), if_neg (show ¬ nI (ch tp nt a) = 45 from fun q => by rw [show (45 : Int32) = nI 45 from rfl, nIeq (by omega) (by omega)] at q; omega)]
  · obtain ⟨n', rfl⟩ : ∃ n', n = n' + 1 := ⟨n - 1, by omega⟩
    show fX12_sumg_4 rcO' rcE' (n' + 1) (n' + 1) d = _
    rw [fX12_sumg_4, if_pos (PG_f hg (by omega))]
theorem comparedSM (hn5 : 5000 < n) (H : WP c0 d0 K nt tp) (hs : SM c0 d0 K nt tp vx (fun c => fX5_readSumg rcE rcO n c (nI o)) (fun d => fX12_sumg rcO' rcE' n d) o) : SM c0 d0 K nt tp vx (fun c => fX5_readComparedg rcE rcO n c (nI o)) (fun d => fX12_comparedg rcO' rcE' n d) o := by
  have hn := H.1
  refine seqSM H hs (F2 := fun c => (fX5_signHere c (60 : Int32) (-9 : Int32) (61 : Int32) (-10 : Int32) (62 : Int32) (-11 : Int32)).bind (fun r4 => if r4 = 0 then (some (true, c)) else (bnd (sI c 21 2 ((gI c 21 2) + (1 : Int32))) (fun st7 => (fX5_readSumg rcE rcO n st7 (nI o)).bind (fun r9 => if bI r9.1 = 0 then (some (false, r9.2)) else ((fX5_add r9.2 r4).bind (fun r12 => some (true, r12)))))))) (G2 := fun r1 => (fX12_look r1).bind (fun r3 => if 0 ≤ gI r1 0 27 then (some r1) else (if r3 = (60 : Int32) then (fX12_comparedg_35 rcO' rcE' n r1 r3) else (if r3 = (61 : Int32) then (fX12_comparedg_35 rcO' rcE' n r1 r3) else (if r3 = (62 : Int32) then (fX12_comparedg_35 rcO' rcE' n r1 r3) else (some r1)))))) (fun c d a q CL TL hc hd ha hT hC => ?_) (fun c a hq ha hz => ?_) (fun d a l hg ha => ?_)
  · have sh := signH (x := 0) H hc.1 ha 60 61 62 (by omega) (by omega) (by omega) (-9) (-10) (-11)
    have sh' : fX5_signHere c 60 (-9) 61 (-10) 62 (-11) = _ := sh
    have q60 : (lkv tp nt a = (60 : Int32)) ↔ ch tp nt a = 60 := lkv_eq H a 60 (by omega)
    have q61 : (lkv tp nt a = (61 : Int32)) ↔ ch tp nt a = 61 := lkv_eq H a 61 (by omega)
    have q62 : (lkv tp nt a = (62 : Int32)) ↔ ch tp nt a = 62 := lkv_eq H a 62 (by omega)
    simp only [sh', d_look H hd.1 hd.2.1 ha, Option.bind_some, bnd_x, hc.1.2, nI_1, if_neg (PD_f hd)]
    by_cases z : ch tp nt a = 60 ∨ ch tp nt a = 61 ∨ ch tp nt a = 62
    · have hlt : a < nt := by
        apply Classical.byContradiction
        intro y
        unfold ch at z
        rw [if_neg y] at z
        omega
      have el : lkv tp nt a = nI (ch tp nt a) := (lkv_eq H a _ (by omega)).mpr rfl
      have hop : isOp (ch tp nt a) = true := by rcases z with z | z | z <;> rw [z] <;> rfl
      have esg : (if ch tp nt a = 60 then (-9 : Int32) else if ch tp nt a = 61 then -10 else if ch tp nt a = 62 then -11 else 0) = sg (ch tp nt a, 0) := by
        rcases z with z | z | z <;> rw [z] <;> decide
      have es0 : ¬ sg (ch tp nt a, 0) = 0 := by rcases z with z | z | z <;> rw [z] <;> decide
      have ed : (if lkv tp nt a = 60 then fX12_comparedg_35 rcO' rcE' n d (lkv tp nt a) else if lkv tp nt a = 61 then fX12_comparedg_35 rcO' rcE' n d (lkv tp nt a) else if lkv tp nt a = 62 then fX12_comparedg_35 rcO' rcE' n d (lkv tp nt a) else some d) = (fX12_sumg rcO' rcE' n (sI d 0 26 (nI (a + 1)))).bind (fun r => (fX12_addStep r (nI (ch tp nt a)) 0).bind (fun r' => some r')) := by
        have e35 : fX12_comparedg_35 rcO' rcE' n d (lkv tp nt a) = (fX12_sumg rcO' rcE' n (sI d 0 26 (nI (a + 1)))).bind (fun r => (fX12_addStep r (nI (ch tp nt a)) 0).bind (fun r' => some r')) := by
          unfold fX12_comparedg_35
          rw [bnd_x, hd.2.1, nI_1, el]
        rw [← e35]
        by_cases w1 : ch tp nt a = 60
        · rw [if_pos (q60.mpr w1)]
        · rw [if_neg (fun e => w1 (q60.mp e))]
          by_cases w2 : ch tp nt a = 61
          · rw [if_pos (q61.mpr w2)]
          · rw [if_neg (fun e => w2 (q61.mp e)), if_pos (q62.mpr (by omega))]
      rw [ed, esg, if_neg es0]
      rcases opSM H hs hop (by omega) hc hd hlt hT hC (fun r => some (true, r)) (fun r => some r) with ⟨ts, a', c', d', t1, t2, t3, t4, t5, t6, t7, t8⟩ | ⟨a', l, c', d', t1, t2, t3, t4, t5, t6, t7, t8⟩ | ⟨a', l, c', d', t2, t3, t4, t5, t6, t7, t8⟩
      · refine ⟨true, c', d', t7, t8, t6, Or.inl ⟨rfl, ts ++ [(ch tp nt a, 0)], a', ?_, by simp only [List.length_append, List.length_cons, List.length_nil]; omega, t3, t4, t5⟩⟩
        have := vx1_st hop t1 vx1_0
        rw [List.append_nil] at this
        exact this
      · exact ⟨true, c', d', t7, t8, t6, Or.inr (Or.inl ⟨rfl, a', l, t1, t2, t3, t4, t5⟩)⟩
      · exact ⟨false, c', d', t7, t8, t6, Or.inr (Or.inr ⟨rfl, a', l, t2, t3, t4, t5⟩)⟩
    · rw [if_neg (show ¬ ch tp nt a = 60 by omega), if_neg (show ¬ ch tp nt a = 61 by omega), if_neg (show ¬ ch tp nt a = 62 by omega), if_pos rfl, if_neg (fun e => z (Or.inl (q60.mp e))), if_neg (fun e => z (Or.inr (Or.inl (q61.mp e)))), if_neg (fun e => z (Or.inr (Or.inr (q62.mp e))))]
      refine ⟨true, c, d, rfl, rfl, rwL_rf d, Or.inl ⟨rfl, [], a, vx1_0, by simp, ha, ?_, ?_⟩⟩
      · rw [List.map_nil, List.append_nil]; exact hc
      · rw [List.append_nil]; exact hd
  · have sh := signH (x := 0) H hq ha 60 61 62 (by omega) (by omega) (by omega) (-9) (-10) (-11)
    have sh' : fX5_signHere c 60 (-9) 61 (-10) 62 (-11) = _ := sh
    unfold dig at hz
    show (fX5_signHere c 60 (-9) 61 (-10) 62 (-11)).bind _ = _
    rw [sh', Option.bind_some, if_neg (show ¬ ch tp nt a = 60 by omega), if_neg (show ¬ ch tp nt a = 61 by omega), if_neg (show ¬ ch tp nt a = 62 by omega), if_pos rfl]
  · obtain ⟨p, hp, h26⟩ := hg.2.2.2
    show (fX12_look d).bind _ = _
    rw [d_look H hg.1 h26 hp, Option.bind_some, if_pos (PG_f hg (by omega))]
theorem bothSM (hn5 : 5000 < n) (H : WP c0 d0 K nt tp) (hs : SM c0 d0 K nt tp vx (fun c => fX5_readComparedg rcE rcO n c (nI o)) (fun d => fX12_comparedg rcO' rcE' n d) o) : SM c0 d0 K nt tp vx (fun c => fX5_readBothg rcE rcO n c (nI o)) (fun d => fX12_bothg rcO' rcE' n d) o := by
  have hn := H.1
  have stp : ∀ k c a, PQ c0 c K a → a ≤ nt → fX5_readBothg_10 rcE rcO n (k + 1) c (nI o) = if ch tp nt a = 38 then (fX5_readComparedg rcE rcO n (sI c 21 2 (nI (a + 1))) (nI o)).bind (fun r => if bI r.1 = 0 then some (false, r.2) else (fX5_add r.2 (-8)).bind (fun r' => fX5_readBothg_10 rcE rcO n k r' (nI o))) else some (true, c) := fun k c a hq ha => by
    rw [fX5_readBothg_10, bnd_x, show gI c 21 2 + 1 = nI (a + 1) by rw [hq.2, nI_1]]
    exact c_test H hq ha 38 (by omega) _ _
  have loop : SM c0 d0 K nt tp vx1 (fun c => fX5_readBothg_10 rcE rcO n n c (nI o)) (fun d => fX12_bothg_4 rcO' rcE' n n d) o := by
    refine loopSM hn5 H hs (fun x => x == 38) (fun x hx => ?_) (fun x hx => ?_) (fun k c => fX5_readBothg_10 rcE rcO n k c (nI o)) (fun k d => fX12_bothg_4 rcO' rcE' n k d) (fun k c a hq ha hz => ?_) (fun k c a hq ha hz => ?_) (fun k d hf => ?_) (fun k d a TL hd ha hz => ?_) (fun k d a TL hd ha hz => ?_)
    · rw [beq_iff_eq] at hx
      subst hx
      exact ⟨rfl, by omega⟩
    · unfold dig at hx
      rw [beq_eq_false_iff_ne]
      omega
    · rw [beq_eq_false_iff_ne] at hz
      exact (stp k c a hq ha).trans (if_neg hz)
    · rw [beq_iff_eq] at hz
      refine (stp k c a hq ha).trans ?_
      rw [if_pos hz, hz, show sg (38, 0) = -8 by decide]
    · show fX12_bothg_4 rcO' rcE' n (k + 1) d = _
      rw [fX12_bothg_4, if_pos hf]
    · rw [beq_eq_false_iff_ne] at hz
      show fX12_bothg_4 rcO' rcE' n (k + 1) d = _
      rw [fX12_bothg_4, if_neg (PD_f hd), d_look H hd.1 hd.2.1 ha, Option.bind_some, if_neg (show ¬ lkv tp nt a = 38 from fun q => hz ((lkv_eq H a 38 (by omega)).mp q))]
    · rw [beq_iff_eq] at hz
      show fX12_bothg_4 rcO' rcE' n (k + 1) d = _
      rw [fX12_bothg_4, if_neg (PD_f hd), d_look H hd.1 hd.2.1 ha, Option.bind_some, if_pos (show lkv tp nt a = 38 from (lkv_eq H a 38 (by omega)).mpr hz), bnd_x, hd.2.1, nI_1, hz]
      rfl
  refine seqSM H hs loop (fun c a hq ha hz => ?_) (fun d a l hg ha => ?_)
  · obtain ⟨n', rfl⟩ : ∃ n', n = n' + 1 := ⟨n - 1, by omega⟩
    unfold dig at hz
    exact (stp n' c a hq ha).trans (if_neg (by omega))
  · obtain ⟨n', rfl⟩ : ∃ n', n = n' + 1 := ⟨n - 1, by omega⟩
    show fX12_bothg_4 rcO' rcE' (n' + 1) (n' + 1) d = _
    rw [fX12_bothg_4, if_pos (PG_f hg (by omega))]
theorem eitherSM (hn5 : 5000 < n) (H : WP c0 d0 K nt tp) (hs : SM c0 d0 K nt tp vx (fun c => fX5_readBothg rcE rcO n c (nI o)) (fun d => fX12_bothg rcO' rcE' n d) o) : SM c0 d0 K nt tp vx (fun c => fX5_readEitherg rcE rcO n c (nI o)) (fun d => fX12_eitherg rcO' rcE' n d) o := by
  have hn := H.1
  have stp : ∀ k c a, PQ c0 c K a → a ≤ nt → fX5_readEitherg_10 rcE rcO n (k + 1) c (nI o) = if ch tp nt a = 124 then (fX5_readBothg rcE rcO n (sI c 21 2 (nI (a + 1))) (nI o)).bind (fun r => if bI r.1 = 0 then some (false, r.2) else (fX5_add r.2 (-7)).bind (fun r' => fX5_readEitherg_10 rcE rcO n k r' (nI o))) else some (true, c) := fun k c a hq ha => by
    rw [fX5_readEitherg_10, bnd_x, show gI c 21 2 + 1 = nI (a + 1) by rw [hq.2, nI_1]]
    exact c_test H hq ha 124 (by omega) _ _
  have loop : SM c0 d0 K nt tp vx1 (fun c => fX5_readEitherg_10 rcE rcO n n c (nI o)) (fun d => fX12_eitherg_4 rcO' rcE' n n d) o := by
    refine loopSM hn5 H hs (fun x => x == 124) (fun x hx => ?_) (fun x hx => ?_) (fun k c => fX5_readEitherg_10 rcE rcO n k c (nI o)) (fun k d => fX12_eitherg_4 rcO' rcE' n k d) (fun k c a hq ha hz => ?_) (fun k c a hq ha hz => ?_) (fun k d hf => ?_) (fun k d a TL hd ha hz => ?_) (fun k d a TL hd ha hz => ?_)
    · rw [beq_iff_eq] at hx
      subst hx
      exact ⟨rfl, by omega⟩
    · unfold dig at hx
      rw [beq_eq_false_iff_ne]
      omega
    · rw [beq_eq_false_iff_ne] at hz
      exact (stp k c a hq ha).trans (if_neg hz)
    · rw [beq_iff_eq] at hz
      refine (stp k c a hq ha).trans ?_
      rw [if_pos hz, hz, show sg (124, 0) = -7 by decide]
    · show fX12_eitherg_4 rcO' rcE' n (k + 1) d = _
      rw [fX12_eitherg_4, if_pos hf]
    · rw [beq_eq_false_iff_ne] at hz
      show fX12_eitherg_4 rcO' rcE' n (k + 1) d = _
      rw [fX12_eitherg_4, if_neg (PD_f hd), d_look H hd.1 hd.2.1 ha, Option.bind_some, if_neg (show ¬ lkv tp nt a = 124 from fun q => hz ((lkv_eq H a 124 (by omega)).mp q))]
    · rw [beq_iff_eq] at hz
      show fX12_eitherg_4 rcO' rcE' n (k + 1) d = _
      rw [fX12_eitherg_4, if_neg (PD_f hd), d_look H hd.1 hd.2.1 ha, Option.bind_some, if_pos (show lkv tp nt a = 124 from (lkv_eq H a 124 (by omega)).mpr hz), bnd_x, hd.2.1, nI_1, hz]
      rfl
  refine seqSM H hs loop (fun c a hq ha hz => ?_) (fun d a l hg ha => ?_)
  · obtain ⟨n', rfl⟩ : ∃ n', n = n' + 1 := ⟨n - 1, by omega⟩
    unfold dig at hz
    exact (stp n' c a hq ha).trans (if_neg (by omega))
  · obtain ⟨n', rfl⟩ : ∃ n', n = n' + 1 := ⟨n - 1, by omega⟩
    show fX12_eitherg_4 rcO' rcE' (n' + 1) (n' + 1) d = _
    rw [fX12_eitherg_4, if_pos (PG_f hg (by omega))]
theorem exprSM (hn5 : 5000 < n) (H : WP c0 d0 K nt tp) (ho : o ≤ 6) (hs : o < 6 → SM c0 d0 K nt tp vx (fun c => rcE n c (nI (o + 1))) (fun d => rcE' n d) (o + 1) ∧ SM c0 d0 K nt tp vx (fun c => rcO n c (nI (o + 1))) (fun d => rcO' n d) (o + 1)) : SM c0 d0 K nt tp vx (fun c => fX5_readEitherg rcE rcO n c (nI o)) (fun d => fX12_eitherg rcO' rcE' n d) o ∧ SM c0 d0 K nt tp vx (fun c => fX5_readOperandg rcE rcO n c (nI o)) (fun d => fX12_operandg rcO' rcE' n d) o := by
  have h1 := operandSM hn5 H ho hs
  exact ⟨eitherSM hn5 H (bothSM hn5 H (comparedSM hn5 H (sumSM hn5 H (productSM hn5 H h1)))), h1⟩
end G
theorem grSM {c0 d0 : St} {K nt n : Nat} (hn5 : 5000 < n) {tp : Nat → Nat} (H : WP c0 d0 K nt tp) : ∀ (j D : Nat), j ≤ 6 → j + 1 ≤ D → SM c0 d0 K nt tp vx (fun c => (grX5 D).1 n c (nI (6 - j))) (fun d => (grX12 D).2 n d) (6 - j) ∧ SM c0 d0 K nt tp vx (fun c => (grX5 D).2 n c (nI (6 - j))) (fun d => (grX12 D).1 n d) (6 - j) := by
  intro j
  induction j with
  | zero =>
    intro D hj hD
    obtain ⟨D, rfl⟩ : ∃ D', D = D' + 1 := ⟨D - 1, by omega⟩
    exact exprSM hn5 H (o := 6 - 0) (by omega) (fun h => absurd h (by omega))
  | succ j ih =>
    intro D hj hD
    obtain ⟨D, rfl⟩ : ∃ D', D = D' + 1 := ⟨D - 1, by omega⟩
    have := ih D (by omega) (by omega)
    refine exprSM hn5 H (o := 6 - (j + 1)) (by omega) (fun h => ?_)
    rw [show 6 - (j + 1) + 1 = 6 - j by omega]
    exact this
theorem topSM {c0 d0 : St} {K nt n : Nat} (hn5 : 5000 < n) {tp : Nat → Nat} (H : WP c0 d0 K nt tp) : SM c0 d0 K nt tp vx (fun c => fX5_readEither n c (nI 0)) (fun d => fX12_either n d) 0 :=
  (exprSM hn5 H (o := 0) (rcE := (grX5 8).1) (rcO := (grX5 8).2) (rcO' := (grX12 8).1) (rcE' := (grX12 8).2) (by omega) (fun _ => grSM hn5 H 5 8 (by omega) (by omega))).1
