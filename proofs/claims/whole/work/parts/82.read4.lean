theorem ch_lt {nt a x : Nat} {tp : Nat → Nat} (h : ch tp nt a = x) (hx : x < 256) : a < nt ∧ tp a = x := by
  unfold ch at h
  by_cases z : a < nt
  · rw [if_pos z] at h; exact ⟨z, h⟩
  · rw [if_neg z] at h; omega
set_option maxHeartbeats 1000000 in
theorem operandSM {c0 d0 : St} {K nt o n : Nat} (hn5 : 5000 < n) {tp : Nat → Nat} (H : WP c0 d0 K nt tp) (ho : o ≤ 6) {rcE rcO : Nat → St → Int32 → Option (Bool × St)} {rcO' rcE' : Nat → St → Option St} (hs : o < 6 → SM c0 d0 K nt tp vx (fun c => rcE n c (nI (o + 1))) (fun d => rcE' n d) (o + 1) ∧ SM c0 d0 K nt tp vx (fun c => rcO n c (nI (o + 1))) (fun d => rcO' n d) (o + 1)) : SM c0 d0 K nt tp vx (fun c => fX5_readOperandg rcE rcO n c (nI o)) (fun d => fX12_operandg rcO' rcE' n d) o := by
  intro c d a q CL TL hc hd ha hT hC
  have hn := H.1
  obtain ⟨l1, l2, l3⟩ := CB_len H hc.1.1
  show ∃ b c' d', fX5_readOperandg rcE rcO n c (nI o) = some (b, c') ∧ fX12_operandg rcO' rcE' n d = some d' ∧ rwL d d' ∧ Out c0 d0 K nt tp vx a q o CL TL b c' d'
  unfold fX5_readOperandg fX12_operandg
  rw [l1, hc.1.2, d_look H hd.1 hd.2.1 ha, Option.bind_some]
  have q33 : (lkv tp nt a = (33 : Int32)) ↔ ch tp nt a = 33 := lkv_eq H a 33 (by omega)
  have q45 : (lkv tp nt a = (45 : Int32)) ↔ ch tp nt a = 45 := lkv_eq H a 45 (by omega)
  have q40 : (lkv tp nt a = (40 : Int32)) ↔ ch tp nt a = 40 := lkv_eq H a 40 (by omega)
  by_cases z : a < nt
  · have ht := (H.2.2.2.2.2 a z).1
    have ec : ch tp nt a = tp a := by unfold ch; rw [if_pos z]
    have el : lkv tp nt a = sb (tp a) := by unfold lkv; rw [if_pos z]
    rw [ec] at q33 q45 q40
    rw [if_pos (nI_lt z (by omega)), inB_t (show a < 120 by omega) (by omega), gd_true, bnd_x, nIc (by omega), l3 a z]
    rcases nm_t (tp a) ht with ⟨m1, m2, m3, m4, m5, m6, m7⟩ | ⟨m1, m2, m3⟩
    · have n33 : ¬ tp a = 33 := fun e => by omega
      rw [el, m5, if_neg (nI_pos (by omega)), if_neg (show ¬ nI (tp a) < 48 from nI_nlt (b := 48) (by omega) (by omega)), if_pos (show (57 : Int32) < nI (tp a) from nI_lt (a := 57) m3 (by omega))]
      unfold fX5_readOperandg_41
      rw [if_neg (show ¬ nI (tp a) = 40 from fun e => by rw [show (40 : Int32) = nI 40 from rfl, nIeq (by omega) (by omega)] at e; omega), if_neg (show ¬ nI (tp a) = 33 from fun e => by rw [show (33 : Int32) = nI 33 from rfl, nIeq (by omega) (by omega)] at e; omega), if_neg (show ¬ nI (tp a) = 45 from fun e => by rw [show (45 : Int32) = nI 45 from rfl, nIeq (by omega) (by omega)] at e; omega), bnd_x, if_neg m7, bnd_x, hc.1.2, nI_1, m6]
      obtain ⟨c2, f1, f2⟩ := PC_add H (PC_adv H.2.1 hc) (by omega) (-1 - nI (nmi (tp a)))
      obtain ⟨d2, g1, g2, g3⟩ := PD_add hd (by omega) 2 (by omega) (nI (nmi (tp a)))
      have g1' : fX12_addStep d 2 (nI (nmi (tp a))) = some d2 := g1
      rw [f1, g1', Option.bind_some, Option.bind_some, bnd_x, g2.2.1, nI_1]
      refine ⟨true, c2, _, rfl, rfl, rwL_tr g3 (rwL_sI d2 26 _ (by omega)), Or.inl ⟨rfl, [(2, nI (nmi (tp a)))], a + 1, vd_2 m4, by simp, by omega, ?_, PD_adv g2⟩⟩
      exact f2
    · rw [el, m2, if_pos neg1_lt]
      rw [el] at q33 q45 q40
      by_cases zd : dig (ch tp nt a)
      · obtain ⟨-, z2, z3⟩ := dig_lt zd
        rw [if_neg (show ¬ nI (tp a) < 48 from nI_nlt (b := 48) (by omega) (by omega)), if_neg (show ¬ (57 : Int32) < nI (tp a) from nI_nlt (a := 57) (by omega) (by omega)), if_neg (fun e => by have := q33.mp e; omega), if_neg (fun e => by have := q45.mp e; omega), if_neg (fun e => by have := q40.mp e; omega)]
        obtain ⟨c1, d1, a1, w, dg, u1, u2, u3, u4, u5, u6, u7, u8, u9, u10, u11, u12⟩ := num_l (n := n) H 4 0 n c d a 0 CL TL (by omega) (by omega) hc hd ha (by decide)
        have u1' : fX5_readNumber_4 n n c 0 0 = fX5_add c1 (nI w) := u1
        have u3' : fX12_figure_4 n n d 0 0 = fX12_figure_52 n d1 (nI w) (nI dg) := u3
        have hdg : 0 < dg := u12 zd (by omega)
        obtain ⟨c2, f1, f2⟩ := PC_add H u2 (by omega) (nI w)
        have hw : w < 10000 := Nat.lt_of_lt_of_le u9 (show 10 ^ dg ≤ 10 ^ 4 from Nat.pow_le_pow_right (by omega) u8)
        unfold fX5_readNumber fX12_figure fX12_figure_52 at *
        rw [u1', u3', f1, Option.bind_some, if_neg (nI_ne0 hdg (by omega)), d_look H u4.1 u4.2.1 u5, Option.bind_some, isI, if_bI]
        by_cases y : dig (ch tp nt a1)
        · obtain ⟨w1, w2⟩ := PD_wrong (nt := nt) u4 u5
          obtain ⟨d2, g1, g2, g3⟩ := PG_add w1 (by omega) 1 (nI w)
          rw [decide_eq_true ((lkv_dig H a1).mpr y), cond_true, bnd_x, g1, Option.bind_some]
          exact ⟨true, c2, d2, rfl, rfl, rwL_tr u11 (rwL_tr w2 g3), Or.inr (Or.inl ⟨rfl, a1, TL.length + 1, y, u5, PC_S f2 (by simp only [List.length_append, List.length_cons, List.length_nil]; omega), g2, by omega⟩)⟩
        · obtain ⟨d2, g1, g2, g3⟩ := PD_add u4 (by omega) 1 (by omega) (nI w)
          have g1' : fX12_addStep d1 1 (nI w) = some d2 := g1
          rw [decide_eq_false (fun e => y ((lkv_dig H a1).mp e)), cond_false, g1', Option.bind_some]
          exact ⟨true, c2, d2, rfl, rfl, rwL_tr u11 g3, Or.inl ⟨rfl, [(1, nI w)], a1, vd_1 (nI_pos' (by omega)), by simp only [List.length_cons, List.length_nil]; omega, u5, f2, g2⟩⟩
      · have e41 : (if nI (tp a) < 48 then fX5_readOperandg_41 rcE rcO n c (nI o) (nI (tp a)) else if (57 : Int32) < nI (tp a) then fX5_readOperandg_41 rcE rcO n c (nI o) (nI (tp a)) else (fX5_readNumber n c).bind (fun r7 => some (true, r7))) = fX5_readOperandg_41 rcE rcO n c (nI o) (nI (tp a)) := by
          unfold dig at zd
          rw [ec] at zd
          by_cases y : tp a < 48
          · rw [if_pos (show nI (tp a) < 48 from nI_lt (b := 48) y (by omega))]
          · rw [if_neg (show ¬ nI (tp a) < 48 from nI_nlt (b := 48) (by omega) (by omega)), if_pos (show (57 : Int32) < nI (tp a) from nI_lt (a := 57) (by omega) (by omega))]
        rw [e41]
        unfold fX5_readOperandg_41 fX5_readOperandg_59
        rw [bnd_x, m3, if_pos rfl]
        simp only [bool_eta]
        have c40 : (nI (tp a) = (40 : Int32)) ↔ tp a = 40 := by rw [show (40 : Int32) = nI 40 from rfl, nIeq (by omega) (by omega)]
        have c33 : (nI (tp a) = (33 : Int32)) ↔ tp a = 33 := by rw [show (33 : Int32) = nI 33 from rfl, nIeq (by omega) (by omega)]
        have c45 : (nI (tp a) = (45 : Int32)) ↔ tp a = 45 := by rw [show (45 : Int32) = nI 45 from rfl, nIeq (by omega) (by omega)]
        by_cases y40 : tp a = 40
        · rw [if_pos (c40.mpr y40), if_neg (show ¬ sb (tp a) = 33 from fun e => by have := q33.mp e; omega), if_neg (show ¬ sb (tp a) = 45 from fun e => by have := q45.mp e; omega), if_pos (q40.mpr y40), show nI (tp a) = 40 from c40.mpr y40]
          by_cases h6 : o < 6
          · rw [if_neg (show ¬ (6 : Int32) ≤ nI o from nI_ge (b := 6) h6 (by omega))]
            exact brackSM H h6 (hs h6).1 hc hd z hT hC
          · have e6 : o = 6 := by omega
            subst e6
            obtain ⟨w1, w2⟩ := PD_wrong (nt := nt) hd ha
            rw [if_pos (show (6 : Int32) ≤ nI 6 from i32_rf _), bnd_x, d_opens6 hd]
            exact ⟨false, c, _, rfl, rfl, w2, Or.inr (Or.inr ⟨rfl, a, _, ha, hc.1, w1, by omega⟩)⟩
        · rw [if_neg (fun e => y40 (c40.mp e))]
          have sgn : ∀ t, ((tp a = 33 ∧ t = 3) ∨ (tp a = 45 ∧ t = 4)) → sb (tp a) = nI (tp a) → ∃ b c' d', (if (6 : Int32) ≤ nI o then some (false, c) else fX5_readOpenedg rcE rcO n c (nI (tp a)) (nI o + 1)) = some (b, c') ∧ fX12_operandg_46 rcO' rcE' n d (sb (tp a)) = some d' ∧ rwL d d' ∧ Out c0 d0 K nt tp vx a q o CL TL b c' d' := by
            intro t hx es
            rw [es]
            by_cases h6 : o < 6
            · rw [if_neg (show ¬ (6 : Int32) ≤ nI o from nI_ge (b := 6) h6 (by omega))]
              exact signSM H h6 (hs h6).2 hx hc hd z hT hC
            · have e6 : o = 6 := by omega
              subst e6
              obtain ⟨w1, w2⟩ := PD_wrong (nt := nt) hd ha
              unfold fX12_operandg_46
              rw [if_pos (show (6 : Int32) ≤ nI 6 from i32_rf _), bnd_x, d_opens6 hd]
              exact ⟨false, c, _, rfl, rfl, w2, Or.inr (Or.inr ⟨rfl, a, _, ha, hc.1, w1, by omega⟩)⟩
          have es : tp a < 128 → sb (tp a) = nI (tp a) := fun y => by
            rcases sb_s (tp a) ht with ⟨_, e⟩ | ⟨e, _⟩
            · exact e
            · omega
          by_cases y33 : tp a = 33
          · rw [if_pos (c33.mpr y33), if_pos (q33.mpr y33)]
            exact sgn 3 (Or.inl ⟨y33, rfl⟩) (es (by omega))
          · rw [if_neg (fun e => y33 (c33.mp e)), if_neg (fun e => y33 (q33.mp e))]
            by_cases y45 : tp a = 45
            · rw [if_pos (c45.mpr y45), if_pos (q45.mpr y45)]
              exact sgn 4 (Or.inr ⟨y45, rfl⟩) (es (by omega))
            · obtain ⟨d', g1, g2, g3⟩ := d_fig0 hn5 H hd ha (by omega) zd
              rw [if_neg (fun e => y45 (c45.mp e)), if_neg (fun e => y45 (q45.mp e)), if_neg (fun e => y40 (q40.mp e)), g1, Option.bind_some]
              exact ⟨false, c, d', rfl, rfl, g3, Or.inr (Or.inr ⟨rfl, a, _, ha, hc.1, g2, by omega⟩)⟩
  · have ec : ch tp nt a = 256 := by unfold ch; rw [if_neg z]
    have el : lkv tp nt a = -1 := by unfold lkv; rw [if_neg z]
    obtain ⟨d', g1, g2, g3⟩ := d_fig0 hn5 H hd ha (by omega) (by rw [ec]; unfold dig; omega)
    rw [if_neg (nI_nlt (by omega) (by omega)), el, if_pos (show fX12_nameOf (-1) < 0 by decide), if_neg (by decide), if_neg (by decide), if_neg (by decide), g1, Option.bind_some]
    exact ⟨false, c, d', rfl, rfl, g3, Or.inr (Or.inr ⟨rfl, a, _, ha, hc.1, g2, by omega⟩)⟩
