/-! products, sums, comparisons, both, either -/
theorem sg_x : sg (42, 0) = -14 ∧ sg (47, 0) = -15 ∧ sg (37, 0) = -16 ∧ sg (43, 0) = -12 ∧ sg (45, 0) = -13 ∧ sg (60, 0) = -9 ∧ sg (61, 0) = -10 ∧ sg (62, 0) = -11 ∧ sg (38, 0) = -8 ∧ sg (124, 0) = -7 := by decide
section G
variable {c0 d0 : St} {K nt o n : Nat} {tp : Nat → Nat} {rcE rcO : Nat → St → Int32 → Option (Bool × St)} {rcO' rcE' : Nat → St → Option St}
theorem ch_eqs {c : St} {a : Nat} (H : WP c0 d0 K nt tp) (h : PQ c0 c K a) (ha : a < nt) : gI c 21 1 = nI nt ∧ gI c 21 2 = nI a ∧ inB (nI a) 120 = true ∧ (nI a).toNatClampNeg = a ∧ gI c 22 a = nI (ch tp nt a) ∧ ch tp nt a < 256 := by
  obtain ⟨l1, l2, l3⟩ := CB_len H h.1
  have hn := H.1
  have ec : ch tp nt a = tp a := by unfold ch; rw [if_pos ha]
  exact ⟨l1, h.2, inB_t (by omega) (by omega), nIc (by omega), by rw [ec]; exact l3 a ha, by rw [ec]; exact (H.2.2.2.2.2 a ha).1⟩
theorem signH {c : St} {a x : Nat} (H : WP c0 d0 K nt tp) (h : PQ c0 c K a) (ha : a ≤ nt) (x1 x2 x3 : Nat) (h1 : x1 < 128) (h2 : x2 < 128) (h3 : x3 < 128) (s1 s2 s3 : Int32) : fX5_signHere c (nI x1) s1 (nI x2) s2 (nI x3) s3 = some (if ch tp nt a = x1 then s1 else if ch tp nt a = x2 then s2 else if ch tp nt a = x3 then s3 else 0) := by
  have hn := H.1
  unfold fX5_signHere fX5_signHere_24
  by_cases z : a < nt
  · obtain ⟨e1, e2, e3, e4, e5, e6⟩ := ch_eqs H h z
    rw [e1, e2, if_neg (nI_ge z (by omega)), e3, gd_true, e4, e5]
    have t : ∀ x, x < 128 → ((nI (ch tp nt a) = nI x) ↔ ch tp nt a = x) := fun x hx => by rw [nIeq (by omega) (by omega)]
    by_cases w1 : ch tp nt a = x1
    · rw [if_pos w1, if_pos ((t x1 h1).mpr w1)]
    · rw [if_neg w1, if_neg (fun q => w1 ((t x1 h1).mp q))]
      by_cases w2 : ch tp nt a = x2
      · rw [if_pos w2, if_pos ((t x2 h2).mpr w2)]
      · rw [if_neg w2, if_neg (fun q => w2 ((t x2 h2).mp q))]
        by_cases w3 : ch tp nt a = x3
        · rw [if_pos w3, if_pos ((t x3 h3).mpr w3)]
        · rw [if_neg w3, if_neg (fun q => w3 ((t x3 h3).mp q))]
  · obtain ⟨l1, l2, l3⟩ := CB_len H h.1
    have ec : ch tp nt a = 256 := by unfold ch; rw [if_neg z]
    rw [l1, h.2, if_pos (nI_le (by omega) (by omega)), ec, if_neg (show ¬ 256 = x1 by omega), if_neg (show ¬ 256 = x2 by omega), if_neg (show ¬ 256 = x3 by omega), if_neg (fun q => neg1_nI (by omega) q.symm), if_neg (fun q => neg1_nI (by omega) q.symm), if_neg (fun q => neg1_nI (by omega) q.symm)]
theorem productSM (hn5 : 5000 < n) (H : WP c0 d0 K nt tp) (hs : SM c0 d0 K nt tp vx (fun c => fX5_readOperandg rcE rcO n c (nI o)) (fun d => fX12_operandg rcO' rcE' n d) o) : SM c0 d0 K nt tp vx (fun c => fX5_readProductg rcE rcO n c (nI o)) (fun d => fX12_productg rcO' rcE' n d) o := by
  have hn := H.1
  have loop : SM c0 d0 K nt tp vx1 (fun c => fX5_readProductg_10 rcE rcO n n c (nI o)) (fun d => fX12_productg_4 rcO' rcE' n n d) o := by
    refine loopSM hn5 H hs (fun x => x == 42 || x == 47 || x == 37) (fun x hx => ?_) (fun x hx => ?_) (fun k c => fX5_readProductg_10 rcE rcO n k c (nI o)) (fun k d => fX12_productg_4 rcO' rcE' n k d) (fun k c a hq ha hz => ?_) (fun k c a hq ha hz => ?_) (fun k d hf => ?_) (fun k d a TL hd ha hz => ?_) (fun k d a TL hd ha hz => ?_)
    · simp only [Bool.or_eq_true, beq_iff_eq] at hx
      rcases hx with (rfl | rfl) | rfl <;> exact ⟨rfl, by omega⟩
    · unfold dig at hx
      simp only [Bool.or_eq_false_iff, beq_eq_false_iff_ne]
      omega
    · simp only [Bool.or_eq_false_iff, beq_eq_false_iff_ne] at hz
      show fX5_readProductg_10 rcE rcO n (k + 1) c (nI o) = _
      rw [fX5_readProductg_10]
      by_cases z : a < nt
      · obtain ⟨e1, e2, e3, e4, e5, e6⟩ := ch_eqs H hq z
        rw [e1, e2, if_neg (nI_ge z (by omega)), e3, gd_true, gd_true, gd_true, e4, e5, if_neg (show ¬ nI (ch tp nt a) = 42 from fun q => hz.1.1 (by rw [show (42 : Int32) = nI 42 from rfl, nIeq (by omega) (by omega)] at q; exact q)), if_neg (show ¬ nI (ch tp nt a) = 47 from fun q => hz.1.2 (by rw [show (47 : Int32) = nI 47 from rfl, nIeq (by omega) (by omega)] at q; exact q)), if_neg (show ¬ nI (ch tp nt a) = 37 from fun q => hz.2 (by rw [show (37 : Int32) = nI 37 from rfl, nIeq (by omega) (by omega)] at q; exact q))]
      · obtain ⟨l1, l2, l3⟩ := CB_len H hq.1
        rw [l1, hq.2, if_pos (nI_le (by omega) (by omega))]
    · simp only [Bool.or_eq_true, beq_iff_eq] at hz
      have z : a < nt := by
        apply Classical.byContradiction
        intro y
        unfold ch at hz
        rw [if_neg y] at hz
        omega
      obtain ⟨e1, e2, e3, e4, e5, e6⟩ := ch_eqs H hq z
      have body : fX5_readProductg_63 (fX5_readProductg_10 rcE rcO n k) rcE rcO n c (nI o) = (fX5_readOperandg rcE rcO n (sI c 21 2 (nI (a + 1))) (nI o)).bind (fun r => if bI r.1 = 0 then some (false, r.2) else (fX5_add r.2 (sg (ch tp nt a, 0))).bind (fun r' => fX5_readProductg_10 rcE rcO n k r' (nI o))) := by
        have sh := signH (x := 0) H hq ha 42 47 37 (by omega) (by omega) (by omega) (-14) (-15) (-16)
        have sh' : fX5_signHere c 42 (-14) 47 (-15) 37 (-16) = _ := sh
        unfold fX5_readProductg_63
        have esg : (if ch tp nt a = 42 then (-14 : Int32) else if ch tp nt a = 47 then -15 else if ch tp nt a = 37 then -16 else 0) = sg (ch tp nt a, 0) := by
          rcases hz with (hz | hz) | hz <;> rw [hz] <;> decide
        rw [sh', Option.bind_some, bnd_x, e2, nI_1, esg]
      show fX5_readProductg_10 rcE rcO n (k + 1) c (nI o) = _
      rw [fX5_readProductg_10, body, e1, e2, if_neg (nI_ge z (by omega)), e3, gd_true, gd_true, gd_true, e4, e5]
      rcases hz with (hz | hz) | hz
      · rw [hz, if_pos (show nI 42 = 42 from rfl)]
      · rw [hz, if_neg (show ¬ nI 47 = 42 by decide), if_pos (show nI 47 = 47 from rfl)]
      · rw [hz, if_neg (show ¬ nI 37 = 42 by decide), if_neg (show ¬ nI 37 = 47 by decide), if_pos (show nI 37 = 37 from rfl)]
    · show fX12_productg_4 rcO' rcE' n (k + 1) d = _
      rw [fX12_productg_4, if_pos hf]
    · simp only [Bool.or_eq_false_iff, beq_eq_false_iff_ne] at hz
      show fX12_productg_4 rcO' rcE' n (k + 1) d = _
      rw [fX12_productg_4, if_neg (PD_f hd), d_look H hd.1 hd.2.1 ha, Option.bind_some, Option.bind_some, Option.bind_some, if_neg (show ¬ lkv tp nt a = 42 from fun q => hz.1.1 ((lkv_eq H a 42 (by omega)).mp q)), if_neg (show ¬ lkv tp nt a = 47 from fun q => hz.1.2 ((lkv_eq H a 47 (by omega)).mp q)), if_neg (show ¬ lkv tp nt a = 37 from fun q => hz.2 ((lkv_eq H a 37 (by omega)).mp q))]
    · simp only [Bool.or_eq_true, beq_iff_eq] at hz
      have el : lkv tp nt a = nI (ch tp nt a) := (lkv_eq H a _ (by omega)).mpr rfl
      have body : fX12_productg_38 (fX12_productg_4 rcO' rcE' n k) rcO' rcE' n d = (fX12_operandg rcO' rcE' n (sI d 0 26 (nI (a + 1)))).bind (fun r => (fX12_addStep r (nI (ch tp nt a)) 0).bind (fun r' => fX12_productg_4 rcO' rcE' n k r')) := by
        unfold fX12_productg_38
        rw [d_look H hd.1 hd.2.1 ha, Option.bind_some, bnd_x, hd.2.1, nI_1, el]
      show fX12_productg_4 rcO' rcE' n (k + 1) d = _
      rw [fX12_productg_4, body, if_neg (PD_f hd), d_look H hd.1 hd.2.1 ha, Option.bind_some, Option.bind_some, Option.bind_some, el]
      rcases hz with (hz | hz) | hz
      · rw [hz, if_pos (show nI 42 = 42 from rfl)]
      · rw [hz, if_neg (show ¬ nI 47 = 42 by decide), if_pos (show nI 47 = 47 from rfl)]
      · rw [hz, if_neg (show ¬ nI 37 = 42 by decide), if_neg (show ¬ nI 37 = 47 by decide), if_pos (show nI 37 = 37 from rfl)]
  refine seqSM H hs loop (fun c a hq ha hz => ?_) (fun d a l hg ha => ?_)
  · obtain ⟨n', rfl⟩ : ∃ n', n = n' + 1 := ⟨n - 1, by omega⟩
    obtain ⟨z, z1, z2⟩ := dig_lt hz
    obtain ⟨e1, e2, e3, e4, e5, e6⟩ := ch_eqs H hq z
    unfold dig at hz
    show fX5_readProductg_10 rcE rcO (n' + 1) (n' + 1) c (nI o) = _
    rw [fX5_readProductg_10, e1, e2, if_neg (nI_ge z (by omega)), e3, gd_true, gd_true, gd_true, e4, e5, if_neg (show ¬ nI (ch tp nt a) = 42 from fun q => by rw [show (42 : Int32) = nI 42 from rfl, nIeq (by omega) (by omega)] at q; omega), if_neg (show ¬ nI (ch tp nt a) = 47 from fun q => by rw [show (47 : Int32) = nI 47 from rfl, nIeq (by omega) (by omega)] at q; omega), if_neg (show ¬ nI (ch tp nt a) = 37 from fun q => by rw [show (37 : Int32) = nI 37 from rfl, nIeq (by omega) (by omega)] at q; omega)]
  · obtain ⟨n', rfl⟩ : ∃ n', n = n' + 1 := ⟨n - 1, by omega⟩
    show fX12_productg_4 rcO' rcE' (n' + 1) (n' + 1) d = _
    rw [fX12_productg_4, if_pos (PG_f hg (by omega))]
end G
