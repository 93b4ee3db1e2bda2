/-! the whole text -/
theorem text_l {n : Nat} (hn5 : 5000 < n) {c0 d0 : St} {K nt : Nat} {tp : Nat → Nat} (H : WP c0 d0 K nt tp) : ∀ (r k k2 : Nat) (c d : St) (a : Nat) (P : List Ln), nt - a ≤ r → r < k → r + 1 < k2 → LSt c0 d0 K c d a P → a ≤ nt → P ≠ [] → (tkP P).length ≤ a → (P.flatMap lnC).length ≤ a + 1 → 2 * P.length ≤ a + 1 → ∃ b c' d', fX5_isText_19 n k c = some (b, c') ∧ fX12_readText_31 n k2 d 0 = fX12_readText_86 n d' 0 ∧ ((b = true ∧ ∃ P', LSt c0 d0 K c' d' nt P' ∧ P' ≠ [] ∧ (tkP P').length ≤ nt ∧ (P'.flatMap lnC).length ≤ nt + 1 ∧ 2 * P'.length ≤ nt + 1) ∨ (b = false ∧ ∃ a' l, a' ≤ nt ∧ PQ c0 c' K a' ∧ PG d0 d' nt a' l)) := by
  have hn := H.1
  have fl : ∀ (k : Nat) (d' : St) (a' l : Nat), a' ≤ nt → PG d0 d' nt a' l → fX12_readText_31 n (k + 1) d' 0 = fX12_readText_86 n d' 0 := fun k d' a' l ha' hg => by
    rw [fX12_readText_31, if_pos (PG_f hg (by omega))]
    unfold fX12_readText_64
    rw [if_pos (PG_f hg (by omega))]
  have cl : ∀ (k : Nat) (c : St) (a : Nat), PQ c0 c K a → a ≤ nt → ¬ ch tp nt a = 59 → fX5_isText_19 n (k + 1) c = if a = nt then some (true, c) else some (false, c) := fun k c a hq ha hz => by
    obtain ⟨l1, -, -⟩ := CB_len H hq.1
    rw [fX5_isText_19, bnd_x]
    have := c_test H hq ha 59 (by omega) (if gI c 21 2 = gI c 21 1 then (some (true, c)) else (some (false, c))) ((fX5_readLine n (sI c 21 2 (gI c 21 2 + 1))).bind (fun r15 => if bI r15.1 = 0 then (some (false, r15.2)) else (fX5_isText_19 n k r15.2)))
    refine this.trans ?_
    rw [if_neg hz, l1, hq.2]
    by_cases e : a = nt
    · rw [if_pos e, if_pos (by rw [e])]
    · rw [if_neg e, if_neg (fun q => e (by rw [nIeq (by omega) (by omega)] at q; exact q))]
  have dstop : ∀ (k k2 : Nat) (c d : St) (a : Nat) (P : List Ln), LSt c0 d0 K c d a P → a ≤ nt → P ≠ [] → (tkP P).length ≤ a → (P.flatMap lnC).length ≤ a + 1 → 2 * P.length ≤ a + 1 → ¬ ch tp nt a = 59 → ∃ b c' d', fX5_isText_19 n (k + 1) c = some (b, c') ∧ fX12_readText_31 n (k2 + 1) d 0 = fX12_readText_86 n d' 0 ∧ ((b = true ∧ ∃ P', LSt c0 d0 K c' d' nt P' ∧ P' ≠ [] ∧ (tkP P').length ≤ nt ∧ (P'.flatMap lnC).length ≤ nt + 1 ∧ 2 * P'.length ≤ nt + 1) ∨ (b = false ∧ ∃ a' l, a' ≤ nt ∧ PQ c0 c' K a' ∧ PG d0 d' nt a' l)) := by
    intro k k2 c d a P h ha hP b1 b2 b3 hz
    have hd := h.2.1
    rw [cl k c a h.1.1 ha hz, fX12_readText_31, if_neg (PD_f hd), d_look H hd.1 hd.2.1 ha, Option.bind_some, if_neg (show ¬ lkv tp nt a = (59 : Int32) from fun y => hz ((lkv_eq H a 59 (by omega)).mp y))]
    unfold fX12_readText_64
    rw [if_neg (PD_f hd), hd.1.1 0 25 (by omega) (by omega) (by omega) (by omega), H.2.2.2.2.1, hd.2.1]
    by_cases e : a = nt
    · subst e
      rw [if_pos rfl, if_pos (i32_rf _)]
      exact ⟨true, c, d, rfl, rfl, Or.inl ⟨rfl, P, h, hP, b1, b2, b3⟩⟩
    · obtain ⟨w1, -⟩ := PD_wrong (nt := nt) hd ha
      rw [if_neg e, if_neg (nI_ge (by omega) (by omega)), bnd_x]
      exact ⟨false, c, _, rfl, rfl, Or.inr ⟨rfl, a, _, ha, h.1.1, w1⟩⟩
  intro r
  induction r with
  | zero =>
    intro k k2 c d a P hr hk hk2 h ha hP b1 b2 b3
    obtain ⟨k, rfl⟩ : ∃ k', k = k' + 1 := ⟨k - 1, by omega⟩
    obtain ⟨k2, rfl⟩ : ∃ k', k2 = k' + 1 := ⟨k2 - 1, by omega⟩
    exact dstop k k2 c d a P h ha hP b1 b2 b3 (by unfold ch; rw [if_neg (by omega)]; omega)
  | succ r ih =>
    intro k k2 c d a P hr hk hk2 h ha hP b1 b2 b3
    obtain ⟨k, rfl⟩ : ∃ k', k = k' + 1 := ⟨k - 1, by omega⟩
    obtain ⟨k2, rfl⟩ : ∃ k', k2 = k' + 1 := ⟨k2 - 1, by omega⟩
    by_cases hz : ch tp nt a = 59
    · have hlt := (ch_lt hz (by omega)).1
      obtain ⟨s1, s2, s3, s4, s5⟩ := h
      have hl : LSt c0 d0 K (sI c 21 2 (nI (a + 1))) (sI d 0 26 (nI (a + 1))) (a + 1) P := ⟨PC_adv H.2.1 s1, PD_adv s2, by rw [gIp, if_neg (by omega)]; exact s3, LN_fr P 0 0 s4 (fun k i hk hi => by rw [gIp, if_neg (by omega)]), s5⟩
      obtain ⟨b, c1, d1, e1, e2, e3⟩ := line_sim hn5 H hl (by omega) (by omega) (by omega) (by omega)
      have ec : fX5_isText_19 n (k + 1) c = if bI b = 0 then some (false, c1) else fX5_isText_19 n k c1 := by
        rw [fX5_isText_19, bnd_x, show gI c 21 2 + 1 = nI (a + 1) by rw [s1.1.2, nI_1], e1, Option.bind_some]
        have := c_test H s1.1 ha 59 (by omega) (if gI c 21 2 = gI c 21 1 then (some (true, c)) else (some (false, c))) (if bI b = 0 then some (false, c1) else fX5_isText_19 n k c1)
        refine this.trans ?_
        rw [if_pos hz]
      have ed : fX12_readText_31 n (k2 + 1) d 0 = fX12_readText_31 n k2 d1 0 := by
        rw [fX12_readText_31, if_neg (PD_f s2), d_look H s2.1 s2.2.1 ha, Option.bind_some, if_pos (show lkv tp nt a = (59 : Int32) from (lkv_eq H a 59 (by omega)).mpr hz), bnd_x, s2.2.1, nI_1, e2, Option.bind_some]
      rw [ec, ed]
      rcases e3 with ⟨rfl, q, a', t1, t2, t3, t4, t5⟩ | ⟨rfl, a', l, t1, t2, t3, t4⟩ | ⟨rfl, a', l, t2, t3, t4⟩
      · rw [if_bI, cond_true]
        exact ih k k2 c1 d1 a' (P ++ [q]) (by omega) (by omega) (by omega) t1 t3 (by simp) t4 t5 (by simp only [List.length_append, List.length_cons, List.length_nil]; omega)
      · obtain ⟨k, rfl⟩ : ∃ k', k = k' + 1 := ⟨k - 1, by omega⟩
        obtain ⟨k2, rfl⟩ : ∃ k', k2 = k' + 1 := ⟨k2 - 1, by omega⟩
        have hd := dig_lt t1
        rw [if_bI, cond_true, cl k c1 a' t3.1 t2 (by unfold dig at t1; omega), if_neg (by omega), fl _ d1 a' l t2 t4]
        exact ⟨false, c1, d1, rfl, rfl, Or.inr ⟨rfl, a', l, t2, t3.1, t4⟩⟩
      · obtain ⟨k2, rfl⟩ : ∃ k', k2 = k' + 1 := ⟨k2 - 1, by omega⟩
        rw [if_bI, cond_false, fl _ d1 a' l t2 t4]
        exact ⟨false, c1, d1, rfl, rfl, Or.inr ⟨rfl, a', l, t2, t3, t4⟩⟩
    · exact dstop k k2 c d a P h ha hP b1 b2 b3 hz
theorem text_sim {n : Nat} (hn5 : 5000 < n) {c d : St} {K nt : Nat} {tp : Nat → Nat} (H : WP c d K nt tp) : ∃ b c' d', fX5_isText n c = some (b, c') ∧ fX12_readText n d 0 = fX12_readText_86 n d' 0 ∧ ((b = true ∧ ∃ P', LSt c d K c' d' nt P' ∧ P' ≠ [] ∧ (tkP P').length ≤ nt ∧ (P'.flatMap lnC).length ≤ nt + 1 ∧ 2 * P'.length ≤ nt + 1) ∨ (b = false ∧ ∃ a' l, a' ≤ nt ∧ PQ c c' K a' ∧ PG d d' nt a' l)) := by
  have hn := H.1
  have hK := H.2.1
  unfold fX5_isText fX12_readText
  simp only [bnd_x]
  generalize hc1 : sI (sI c 21 2 0) 21 4 0 = c1
  generalize hd1 : sI (sI (sI (sI (sI d 0 26 0) 0 27 (-1)) 0 28 0) 0 29 0) 22 1 0 = d1
  have pc : PC c c1 K 0 [] := by
    rw [← hc1]
    refine ⟨⟨⟨fun k i p q => by rw [gIp, if_neg (by omega), gIp, if_neg (by omega)], fun _ => rfl⟩, ?_⟩, ?_, fun i hi => by cases hi⟩
    · rw [gIp, if_neg (by omega), gIp, if_pos ⟨rfl, rfl⟩]; rfl
    · rw [gIp, if_pos ⟨rfl, rfl⟩]; rfl
  have pd : PD d d1 0 0 [] := by
    rw [← hd1]
    refine ⟨⟨fun k i p q r s => by rw [gIp, if_neg (by omega), gIp, if_neg (by omega), gIp, if_neg (by omega), gIp, if_neg (by omega), gIp, if_neg (by omega)], fun _ => rfl⟩, ?_, ?_, ?_, ?_, fun i hi => by cases hi⟩
    · rw [gIp, if_neg (by omega), gIp, if_neg (by omega), gIp, if_neg (by omega), gIp, if_neg (by omega), gIp, if_pos ⟨rfl, rfl⟩]; rfl
    · rw [gIp, if_neg (by omega), gIp, if_neg (by omega), gIp, if_neg (by omega), gIp, if_pos ⟨rfl, rfl⟩]
    · rw [gIp, if_neg (by omega), gIp, if_neg (by omega), gIp, if_pos ⟨rfl, rfl⟩]; rfl
    · rw [gIp, if_neg (by omega), gIp, if_pos ⟨rfl, rfl⟩]; rfl
  have h22 : gI d1 22 1 = nI 0 := by rw [← hd1, gIp, if_pos ⟨rfl, rfl⟩]; rfl
  obtain ⟨b, c2, d2, e1, e2, e3⟩ := line_sim hn5 H (P := []) (a := 0) ⟨pc, pd, h22, trivial, fun q hq => by cases hq⟩ (by omega) (by simp) (by simp [tkP]) (by simp)
  rw [e1, e2, Option.bind_some, Option.bind_some]
  obtain ⟨n', rfl⟩ : ∃ n', n = n' + 1 + 1 := ⟨n - 2, by omega⟩
  rcases e3 with ⟨rfl, q, a', t1, t2, t3, t4, t5⟩ | ⟨rfl, a', l, t1, t2, t3, t4⟩ | ⟨rfl, a', l, t2, t3, t4⟩
  · rw [if_bI, cond_true]
    obtain ⟨b3, c3, d3, f1, f2, f3⟩ := text_l hn5 H nt (n' + 1 + 1) (n' + 1 + 1) c2 d2 a' ([] ++ [q]) (by omega) (by omega) (by omega) t1 t3 (by simp) t4 t5 (by simp only [List.length_append, List.length_cons, List.length_nil]; omega)
    exact ⟨b3, c3, d3, f1, f2, f3⟩
  · have hd := dig_lt t1
    refine ⟨false, c2, d2, ?_, ?_, Or.inr ⟨rfl, a', l, t2, t3.1, t4⟩⟩
    · rw [if_bI, cond_true, fX5_isText_19, bnd_x]
      obtain ⟨l1, -, -⟩ := CB_len H t3.1.1
      have := c_test H t3.1 t2 59 (by omega) (if gI c2 21 2 = gI c2 21 1 then (some (true, c2)) else (some (false, c2))) ((fX5_readLine (n' + 1 + 1) (sI c2 21 2 (gI c2 21 2 + 1))).bind (fun r15 => if bI r15.1 = 0 then (some (false, r15.2)) else (fX5_isText_19 (n' + 1 + 1) (n' + 1) r15.2)))
      refine this.trans ?_
      rw [if_neg (by unfold dig at t1; omega), l1, t3.1.2, if_neg (fun q => by rw [nIeq (by omega) (by omega)] at q; omega)]
    · rw [fX12_readText_31, if_pos (PG_f t4 (by omega))]
      unfold fX12_readText_64
      rw [if_pos (PG_f t4 (by omega))]
  · refine ⟨false, c2, d2, rfl, ?_, Or.inr ⟨rfl, a', l, t2, t3, t4⟩⟩
    rw [fX12_readText_31, if_pos (PG_f t4 (by omega))]
    unfold fX12_readText_64
    rw [if_pos (PG_f t4 (by omega))]
