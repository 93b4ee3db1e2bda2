/-! ALL STEPS, AND THE START -/
theorem steps2 : Steps2 Rel 6000 := ⟨s_field _, s_fall _, s_falls (by omega), s_cry _, s_mend (by omega), s_of _, s_feed _, s_law (by omega), s_counts (by omega), s_at (by omega), s_whose (by omega), s_owed (by omega), s_who (by omega), s_hedge (by omega), s_later (by omega), s_louder (by omega), s_bestCry (by omega), s_buy (by omega), s_sellOff (by omega), s_cleared (by omega), s_sight (by omega), s_ears (by omega), s_judge (by omega), s_whoseCry (by omega), s_drawn (by omega), s_find (by omega), s_pay _, s_give _, s_led _, s_image (by omega), s_back (by omega), s_undo _, s_redo _, s_body _, s_act (by omega), s_trace _, s_keep _, s_row (by omega), s_put _, s_element _, s_shift (by omega), s_taken (by omega), s_count _⟩
set_option maxRecDepth 100000 in
set_option maxHeartbeats 8000000 in
theorem st_1 : gI c0 1 1 = nI 0 ∧ gI c0 1 2 = nI 0 ∧ gI c0 1 3 = nI 0 ∧ gI c0 44 0 = nI 0 ∧ gI c0 44 1 = nI 0 ∧ gI c0 39 1 = nI 0 ∧ gI c0 39 2 = 0 ∧ gI c0 39 3 = 0 ∧ gI c0 39 4 = 0 ∧ gI c0 0 10 = -1 ∧ gI c0 49 1 = nI 0 ∧ gI c0 49 3 = nI 0 ∧ gI c0 21 1 = nI 0 ∧ gI c0 17 0 = 18 ∧ gI c0 21 3 = 23 ∧ gI c0 17 1 = 0 := ⟨rfl, rfl, rfl, rfl, rfl, rfl, rfl, rfl, rfl, rfl, rfl, rfl, rfl, rfl, rfl, rfl⟩
set_option maxRecDepth 100000 in
set_option maxHeartbeats 8000000 in
theorem st_2 : gI d0 0 1 = nI 0 ∧ gI d0 0 8 = nI 0 ∧ gI d0 0 13 = nI 0 ∧ gI d0 0 18 = nI 0 ∧ gI d0 0 19 = nI 0 ∧ gI d0 0 44 = 0 ∧ gI d0 0 50 = nI 0 ∧ gI d0 0 52 = nI 0 ∧ gI d0 0 25 = nI 0 ∧ gI d0 0 37 = 0 ∧ gI d0 32 0 = nI 0 ∧ gI d0 32 1 = 0 ∧ gI d0 32 2 = 0 ∧ gI d0 32 3 = 0 := ⟨rfl, rfl, rfl, rfl, rfl, rfl, rfl, rfl, rfl, rfl, rfl, rfl, rfl, rfl⟩
set_option maxRecDepth 100000 in
set_option maxHeartbeats 8000000 in
theorem st_3a : gI d0 30 = fun _ => 0 := rfl
set_option maxRecDepth 100000 in
set_option maxHeartbeats 8000000 in
theorem st_3b : gI d0 31 = fun _ => 0 := rfl
set_option maxRecDepth 100000 in
set_option maxHeartbeats 8000000 in
theorem st_3c : gI c0 40 = fun _ => 0 := rfl
set_option maxRecDepth 100000 in
set_option maxHeartbeats 8000000 in
theorem st_3d : gL d0 41 = fun _ => 0 := rfl
set_option maxRecDepth 100000 in
set_option maxHeartbeats 8000000 in
theorem st_4_0 : gL c0 54 = fun _ => 0 := rfl
set_option maxRecDepth 100000 in
set_option maxHeartbeats 8000000 in
theorem st_5_0 : gI c0 53 0 = 0 := rfl
set_option maxRecDepth 100000 in
set_option maxHeartbeats 8000000 in
theorem st_6_0 : gI d0 39 0 = -1 := rfl
set_option maxRecDepth 100000 in
set_option maxHeartbeats 8000000 in
theorem st_4_1 : gL c0 56 = fun _ => 0 := rfl
set_option maxRecDepth 100000 in
set_option maxHeartbeats 8000000 in
theorem st_5_1 : gI c0 55 0 = 0 := rfl
set_option maxRecDepth 100000 in
set_option maxHeartbeats 8000000 in
theorem st_6_1 : gI d0 39 1 = -1 := rfl
set_option maxRecDepth 100000 in
set_option maxHeartbeats 8000000 in
theorem st_4_2 : gL c0 58 = fun _ => 0 := rfl
set_option maxRecDepth 100000 in
set_option maxHeartbeats 8000000 in
theorem st_5_2 : gI c0 57 0 = 0 := rfl
set_option maxRecDepth 100000 in
set_option maxHeartbeats 8000000 in
theorem st_6_2 : gI d0 39 2 = -1 := rfl
set_option maxRecDepth 100000 in
set_option maxHeartbeats 8000000 in
theorem st_4_3 : gL c0 60 = fun _ => 0 := rfl
set_option maxRecDepth 100000 in
set_option maxHeartbeats 8000000 in
theorem st_5_3 : gI c0 59 0 = 0 := rfl
set_option maxRecDepth 100000 in
set_option maxHeartbeats 8000000 in
theorem st_6_3 : gI d0 39 3 = -1 := rfl
set_option maxRecDepth 100000 in
set_option maxHeartbeats 8000000 in
theorem st_4_4 : gL c0 62 = fun _ => 0 := rfl
set_option maxRecDepth 100000 in
set_option maxHeartbeats 8000000 in
theorem st_5_4 : gI c0 61 0 = 0 := rfl
set_option maxRecDepth 100000 in
set_option maxHeartbeats 8000000 in
theorem st_6_4 : gI d0 39 4 = -1 := rfl
set_option maxRecDepth 100000 in
set_option maxHeartbeats 8000000 in
theorem st_4_5 : gL c0 64 = fun _ => 0 := rfl
set_option maxRecDepth 100000 in
set_option maxHeartbeats 8000000 in
theorem st_5_5 : gI c0 63 0 = 0 := rfl
set_option maxRecDepth 100000 in
set_option maxHeartbeats 8000000 in
theorem st_6_5 : gI d0 39 5 = -1 := rfl
theorem st_3 (j : Nat) : gI d0 30 j = 0 ∧ gI d0 31 j = gI c0 40 j := by
  rw [st_3a, st_3b, st_3c]
  exact ⟨rfl, rfl⟩
theorem st_4 : ∀ i, i < 6 → gI c0 (53 + 2 * i) 0 = 0 ∧ gI d0 39 i = -1 ∧ ∀ j, gL d0 41 (60 * i + j) = gL c0 (54 + 2 * i) j := by
  intro i hi
  rw [st_3d]
  rcases (show i = 0 ∨ i = 1 ∨ i = 2 ∨ i = 3 ∨ i = 4 ∨ i = 5 by omega) with rfl | rfl | rfl | rfl | rfl | rfl
  · exact ⟨st_5_0, st_6_0, fun j => (congrFun st_4_0 j).symm⟩
  · exact ⟨st_5_1, st_6_1, fun j => (congrFun st_4_1 j).symm⟩
  · exact ⟨st_5_2, st_6_2, fun j => (congrFun st_4_2 j).symm⟩
  · exact ⟨st_5_3, st_6_3, fun j => (congrFun st_4_3 j).symm⟩
  · exact ⟨st_5_4, st_6_4, fun j => (congrFun st_4_4 j).symm⟩
  · exact ⟨st_5_5, st_6_5, fun j => (congrFun st_4_5 j).symm⟩
theorem rel0 : Rel c0 d0 := by
  obtain ⟨a1, a2, a3, a4, a5, a6, a7, a8, a9, a10, a11, a12, a13, a14, a15, a16⟩ := st_1
  obtain ⟨b1, b2, b3, b4, b5, b6, b7, b8, b9, b10, b11, b12, b13, b14⟩ := st_2
  refine ⟨⟨⟨0, by omega, a1, b1⟩, ⟨0, by omega, a2, b2⟩, ⟨0, by omega, a3, b3⟩, fun w j hw hj hlt => ?_⟩, ⟨0, 0, by omega, a4, b4, a5, b5, fun j hj => absurd hj (by omega)⟩, ⟨⟨0, by omega, a6, fun j hj => ?_, fun j _ _ => Nat.zero_testBit j, b11⟩, fun j hj => (st_3 j).2, by rw [b12, a7], by rw [b13, a8], by rw [b14, a9]⟩, Or.inl ⟨a10, b6⟩, ⟨⟨0, by omega, a11, b7, fun j hj => absurd hj (by omega)⟩, 0, by omega, a12, b8, fun j hj => absurd hj (by omega)⟩, fun i hi => ⟨Or.inl ⟨(st_4 i hi).1, (st_4 i hi).2.1⟩, fun j hj => (st_4 i hi).2.2 j⟩, ⟨0, by omega, a13, b9, fun j hj => absurd hj (by omega)⟩, Or.inl ⟨a14, a15⟩, Or.inl ⟨b10, a16⟩⟩
  · have e : gI c0 1 (cs w) = nI 0 := by
      unfold cs
      split
      · exact a1
      · split
        · exact a2
        · exact a3
    rw [e, nIlt (by omega) (by omega)] at hlt
    omega
  · rw [(st_3 j).1]
    unfold bit
    rw [Nat.zero_testBit]
    rfl
