theorem dX11_isWithin_0 : decode cX11_isWithin 0 = .ok (.iload_n 0, 1) := by decide +kernel
theorem dX11_isWithin_1 : decode cX11_isWithin 1 = .ok (.iload_n 1, 1) := by decide +kernel
theorem dX11_isWithin_2 : decode cX11_isWithin 2 = .ok (.if_icmp .lt 12, 3) := by decide +kernel
theorem dX11_isWithin_5 : decode cX11_isWithin 5 = .ok (.iload_n 0, 1) := by decide +kernel
theorem dX11_isWithin_6 : decode cX11_isWithin 6 = .ok (.iload_n 2, 1) := by decide +kernel
theorem dX11_isWithin_7 : decode cX11_isWithin 7 = .ok (.if_icmp .gt 7, 3) := by decide +kernel
theorem dX11_isWithin_10 : decode cX11_isWithin 10 = .ok (.iconst 1, 1) := by decide +kernel
theorem dX11_isWithin_11 : decode cX11_isWithin 11 = .ok (.goto 4, 3) := by decide +kernel
theorem dX11_isWithin_14 : decode cX11_isWithin 14 = .ok (.iconst 0, 1) := by decide +kernel
theorem dX11_isWithin_15 : decode cX11_isWithin 15 = .ok (.ireturn, 1) := by decide +kernel
theorem ok_yX11_isWithin : yOk yX11_isWithin 3 := ⟨by decide +kernel, by decide +kernel, by decide +kernel⟩
def fX11_isWithin (a0 : Int32) (a1 : Int32) (a2 : Int32) : Bool := if a0 < a1 then (false) else (if a2 < a0 then (false) else (true))
set_option maxHeartbeats 4000000 in
theorem zX11_isWithin (l : Launch) (X : WX) (st : St) (a0 : Int32) (a1 : Int32) (a2 : Int32) : CtI l yX11_isWithin cX11_isWithin 3 .boolean ({ frames := 0, cells := 0, slots := 0, locals := 0 }) EC 65 X [.int a0, .int a1, .int a2] st (bI (fX11_isWithin a0 a1 a2)) st := by
  generalize hf : fX11_isWithin a0 a1 a2 = R
  refine ct_in (own := RX11) (by decide +kernel) rfl (Nat.le_of_ble_eq_true rfl) (fun p e s m below meth c C hr hw ls hl => ?_)
  obtain ⟨hx, hb, hml, hown, hts⟩ := id C.1
  have hl : lv_has ls 3 [(0, .int a0), (1, .int a1), (2, .int a2)] := hl
  unfold fX11_isWithin at hf
  refine lv_iload_n hx hb dX11_isWithin_0 rfl (lv_at hl 0 rfl) ?_
  refine lv_iload_n hx hb dX11_isWithin_1 rfl (lv_at hl 1 rfl) ?_
  refine lv_icmp_lt (tgt := 14) hx hb dX11_isWithin_2 (by decide) (fun c1 => ?_) (fun c1 => ?_)
  · replace hf := ite_t hf c1
    refine lv_iconst (v := 0) hx hb dX11_isWithin_14 (by decide) ?_
    exact w_zret (b := false) C hw hr rfl hf rfl dX11_isWithin_15
  · replace hf := ite_f hf c1
    refine lv_iload_n hx hb dX11_isWithin_5 rfl (lv_at hl 0 rfl) ?_
    refine lv_iload_n hx hb dX11_isWithin_6 rfl (lv_at hl 2 rfl) ?_
    refine lv_icmp_gt (tgt := 14) hx hb dX11_isWithin_7 (by decide) (fun c2 => ?_) (fun c2 => ?_)
    · replace hf := ite_t hf c2
      refine lv_iconst (v := 0) hx hb dX11_isWithin_14 (by decide) ?_
      exact w_zret (b := false) C hw hr rfl hf rfl dX11_isWithin_15
    · replace hf := ite_f hf c2
      refine lv_iconst (v := 1) hx hb dX11_isWithin_10 (by decide) ?_
      refine lv_goto (tgt := 15) hx hb dX11_isWithin_11 (by decide) ?_
      exact w_zret (b := true) C hw hr rfl hf rfl dX11_isWithin_15
theorem dX11_isCell_0 : decode cX11_isCell 0 = .ok (.iload_n 0, 1) := by decide +kernel
theorem dX11_isCell_1 : decode cX11_isCell 1 = .ok (.iconst 0, 1) := by decide +kernel
theorem dX11_isCell_2 : decode cX11_isCell 2 = .ok (.sipush 399, 3) := by decide +kernel
theorem dX11_isCell_5 : decode cX11_isCell 5 = .ok (.invokestatic 117, 3) := by decide +kernel
theorem dX11_isCell_8 : decode cX11_isCell 8 = .ok (.ireturn, 1) := by decide +kernel
theorem ok_yX11_isCell : yOk yX11_isCell 1 := ⟨by decide +kernel, by decide +kernel, by decide +kernel⟩
def fX11_isCell (a0 : Int32) : Bool := (fX11_isWithin a0 (0 : Int32) (399 : Int32))
set_option maxHeartbeats 4000000 in
theorem zX11_isCell (l : Launch) (X : WX) (st : St) (a0 : Int32) : CtI l yX11_isCell cX11_isCell 1 .boolean ({ frames := 1, cells := 0, slots := 0, locals := 22 }) EC 65 X [.int a0] st (bI (fX11_isCell a0)) st := by
  generalize hf : fX11_isCell a0 = R
  refine ct_in (own := RX11) (by decide +kernel) rfl (Nat.le_of_ble_eq_true rfl) (fun p e s m below meth c C hr hw ls hl => ?_)
  obtain ⟨hx, hb, hml, hown, hts⟩ := id C.1
  have hl : lv_has ls 1 [(0, .int a0)] := hl
  unfold fX11_isCell at hf
  refine lv_iload_n hx hb dX11_isCell_0 rfl (lv_at hl 0 rfl) ?_
  refine lv_iconst (v := 0) hx hb dX11_isCell_1 (by decide) ?_
  refine lv_sipush (v := 399) hx hb dX11_isCell_2 (by decide) ?_
  refine w_goI hw (w_runS (rest := []) C hw (zX11_isWithin _ _ st a0 (0 : Int32) (399 : Int32)) km_X11_117 kt_yX11_isWithin kz_X11 kc_X11_isWithin ok_yX11_isWithin ⟨Nat.le_of_ble_eq_true rfl, Nat.le_of_ble_eq_true rfl⟩ rfl rfl rfl rfl hl.1 (Nat.le_of_ble_eq_true rfl) dX11_isCell_5 ⟨Nat.zero_le _, Nat.zero_le _⟩) (fun H locs hw => ?_)
  exact w_zret (b := (fX11_isWithin a0 (0 : Int32) (399 : Int32))) C hw hr rfl hf rfl dX11_isCell_8
theorem dX11_isSize_0 : decode cX11_isSize 0 = .ok (.iload_n 0, 1) := by decide +kernel
theorem dX11_isSize_1 : decode cX11_isSize 1 = .ok (.bipush 100, 2) := by decide +kernel
theorem dX11_isSize_3 : decode cX11_isSize 3 = .ok (.idiv, 1) := by decide +kernel
theorem dX11_isSize_4 : decode cX11_isSize 4 = .ok (.iconst 1, 1) := by decide +kernel
theorem dX11_isSize_5 : decode cX11_isSize 5 = .ok (.bipush 20, 2) := by decide +kernel
theorem dX11_isSize_7 : decode cX11_isSize 7 = .ok (.invokestatic 117, 3) := by decide +kernel
theorem dX11_isSize_10 : decode cX11_isSize 10 = .ok (.ifCond .eq 20, 3) := by decide +kernel
theorem dX11_isSize_13 : decode cX11_isSize 13 = .ok (.iload_n 0, 1) := by decide +kernel
theorem dX11_isSize_14 : decode cX11_isSize 14 = .ok (.bipush 100, 2) := by decide +kernel
theorem dX11_isSize_16 : decode cX11_isSize 16 = .ok (.irem, 1) := by decide +kernel
theorem dX11_isSize_17 : decode cX11_isSize 17 = .ok (.iconst 1, 1) := by decide +kernel
theorem dX11_isSize_18 : decode cX11_isSize 18 = .ok (.bipush 20, 2) := by decide +kernel
theorem dX11_isSize_20 : decode cX11_isSize 20 = .ok (.invokestatic 117, 3) := by decide +kernel
theorem dX11_isSize_23 : decode cX11_isSize 23 = .ok (.ifCond .eq 7, 3) := by decide +kernel
theorem dX11_isSize_26 : decode cX11_isSize 26 = .ok (.iconst 1, 1) := by decide +kernel
theorem dX11_isSize_27 : decode cX11_isSize 27 = .ok (.goto 4, 3) := by decide +kernel
theorem dX11_isSize_30 : decode cX11_isSize 30 = .ok (.iconst 0, 1) := by decide +kernel
theorem dX11_isSize_31 : decode cX11_isSize 31 = .ok (.ireturn, 1) := by decide +kernel
theorem ok_yX11_isSize : yOk yX11_isSize 1 := ⟨by decide +kernel, by decide +kernel, by decide +kernel⟩
def fX11_isSize (a0 : Int32) : Bool := if bI (fX11_isWithin (a0 / (100 : Int32)) (1 : Int32) (20 : Int32)) = 0 then (false) else (if bI (fX11_isWithin (rmI a0 (100 : Int32)) (1 : Int32) (20 : Int32)) = 0 then (false) else (true))
set_option maxHeartbeats 4000000 in
theorem zX11_isSize (l : Launch) (X : WX) (st : St) (a0 : Int32) : CtI l yX11_isSize cX11_isSize 1 .boolean ({ frames := 1, cells := 0, slots := 0, locals := 22 }) EC 65 X [.int a0] st (bI (fX11_isSize a0)) st := by
  generalize hf : fX11_isSize a0 = R
  refine ct_in (own := RX11) (by decide +kernel) rfl (Nat.le_of_ble_eq_true rfl) (fun p e s m below meth c C hr hw ls hl => ?_)
  obtain ⟨hx, hb, hml, hown, hts⟩ := id C.1
  have hl : lv_has ls 1 [(0, .int a0)] := hl
  unfold fX11_isSize at hf
  refine lv_iload_n hx hb dX11_isSize_0 rfl (lv_at hl 0 rfl) ?_
  refine lv_bipush (v := 100) hx hb dX11_isSize_1 (by decide) ?_
  refine lv_idiv hx hb dX11_isSize_3 (by decide) ?_
  refine lv_iconst (v := 1) hx hb dX11_isSize_4 (by decide) ?_
  refine lv_bipush (v := 20) hx hb dX11_isSize_5 (by decide) ?_
  refine w_goI hw (w_runS (rest := []) C hw (zX11_isWithin _ _ st (a0 / (100 : Int32)) (1 : Int32) (20 : Int32)) km_X11_117 kt_yX11_isWithin kz_X11 kc_X11_isWithin ok_yX11_isWithin ⟨Nat.le_of_ble_eq_true rfl, Nat.le_of_ble_eq_true rfl⟩ rfl rfl rfl rfl hl.1 (Nat.le_of_ble_eq_true rfl) dX11_isSize_7 ⟨Nat.zero_le _, Nat.zero_le _⟩) (fun H locs hw => ?_)
  refine lv_if_eq (tgt := 30) hx hb dX11_isSize_10 (by decide) (fun c1 => ?_) (fun c1 => ?_)
  · replace hf := ite_t hf c1
    refine lv_iconst (v := 0) hx hb dX11_isSize_30 (by decide) ?_
    exact w_zret (b := false) C hw hr rfl hf rfl dX11_isSize_31
  · replace hf := ite_f hf c1
    refine lv_iload_n hx hb dX11_isSize_13 rfl (lv_at hl 0 rfl) ?_
    refine lv_bipush (v := 100) hx hb dX11_isSize_14 (by decide) ?_
    refine w_irem C (by decide) dX11_isSize_16 ?_
    refine lv_iconst (v := 1) hx hb dX11_isSize_17 (by decide) ?_
    refine lv_bipush (v := 20) hx hb dX11_isSize_18 (by decide) ?_
    refine w_goI hw (w_runS (rest := []) C hw (zX11_isWithin _ _ st (rmI a0 (100 : Int32)) (1 : Int32) (20 : Int32)) km_X11_117 kt_yX11_isWithin kz_X11 kc_X11_isWithin ok_yX11_isWithin ⟨Nat.le_of_ble_eq_true rfl, Nat.le_of_ble_eq_true rfl⟩ rfl rfl rfl rfl hl.1 (Nat.le_of_ble_eq_true rfl) dX11_isSize_20 ⟨Nat.zero_le _, Nat.zero_le _⟩) (fun H locs hw => ?_)
    refine lv_if_eq (tgt := 30) hx hb dX11_isSize_23 (by decide) (fun c2 => ?_) (fun c2 => ?_)
    · replace hf := ite_t hf c2
      refine lv_iconst (v := 0) hx hb dX11_isSize_30 (by decide) ?_
      exact w_zret (b := false) C hw hr rfl hf rfl dX11_isSize_31
    · replace hf := ite_f hf c2
      refine lv_iconst (v := 1) hx hb dX11_isSize_26 (by decide) ?_
      refine lv_goto (tgt := 31) hx hb dX11_isSize_27 (by decide) ?_
      exact w_zret (b := true) C hw hr rfl hf rfl dX11_isSize_31
theorem dX11_isShelf_0 : decode cX11_isShelf 0 = .ok (.iload_n 0, 1) := by decide +kernel
theorem dX11_isShelf_1 : decode cX11_isShelf 1 = .ok (.iconst 0, 1) := by decide +kernel
theorem dX11_isShelf_2 : decode cX11_isShelf 2 = .ok (.iconst 5, 1) := by decide +kernel
theorem dX11_isShelf_3 : decode cX11_isShelf 3 = .ok (.invokestatic 117, 3) := by decide +kernel
theorem dX11_isShelf_6 : decode cX11_isShelf 6 = .ok (.ireturn, 1) := by decide +kernel
theorem ok_yX11_isShelf : yOk yX11_isShelf 1 := ⟨by decide +kernel, by decide +kernel, by decide +kernel⟩
def fX11_isShelf (a0 : Int32) : Bool := (fX11_isWithin a0 (0 : Int32) (5 : Int32))
set_option maxHeartbeats 4000000 in
theorem zX11_isShelf (l : Launch) (X : WX) (st : St) (a0 : Int32) : CtI l yX11_isShelf cX11_isShelf 1 .boolean ({ frames := 1, cells := 0, slots := 0, locals := 22 }) EC 65 X [.int a0] st (bI (fX11_isShelf a0)) st := by
  generalize hf : fX11_isShelf a0 = R
  refine ct_in (own := RX11) (by decide +kernel) rfl (Nat.le_of_ble_eq_true rfl) (fun p e s m below meth c C hr hw ls hl => ?_)
  obtain ⟨hx, hb, hml, hown, hts⟩ := id C.1
  have hl : lv_has ls 1 [(0, .int a0)] := hl
  unfold fX11_isShelf at hf
  refine lv_iload_n hx hb dX11_isShelf_0 rfl (lv_at hl 0 rfl) ?_
  refine lv_iconst (v := 0) hx hb dX11_isShelf_1 (by decide) ?_
  refine lv_iconst (v := 5) hx hb dX11_isShelf_2 (by decide) ?_
  refine w_goI hw (w_runS (rest := []) C hw (zX11_isWithin _ _ st a0 (0 : Int32) (5 : Int32)) km_X11_117 kt_yX11_isWithin kz_X11 kc_X11_isWithin ok_yX11_isWithin ⟨Nat.le_of_ble_eq_true rfl, Nat.le_of_ble_eq_true rfl⟩ rfl rfl rfl rfl hl.1 (Nat.le_of_ble_eq_true rfl) dX11_isShelf_3 ⟨Nat.zero_le _, Nat.zero_le _⟩) (fun H locs hw => ?_)
  exact w_zret (b := (fX11_isWithin a0 (0 : Int32) (5 : Int32))) C hw hr rfl hf rfl dX11_isShelf_6
theorem dX11_isSide_0 : decode cX11_isSide 0 = .ok (.lload_n 0, 1) := by decide +kernel
theorem dX11_isSide_1 : decode cX11_isSide 1 = .ok (.lconst 0, 1) := by decide +kernel
theorem dX11_isSide_2 : decode cX11_isSide 2 = .ok (.lcmp, 1) := by decide +kernel
theorem dX11_isSide_3 : decode cX11_isSide 3 = .ok (.ifCond .lt 15, 3) := by decide +kernel
theorem dX11_isSide_6 : decode cX11_isSide 6 = .ok (.lload_n 0, 1) := by decide +kernel
theorem dX11_isSide_7 : decode cX11_isSide 7 = .ok (.ldc2_w 436, 3) := by decide +kernel
theorem dX11_isSide_10 : decode cX11_isSide 10 = .ok (.lcmp, 1) := by decide +kernel
theorem dX11_isSide_11 : decode cX11_isSide 11 = .ok (.ifCond .ge 7, 3) := by decide +kernel
theorem dX11_isSide_14 : decode cX11_isSide 14 = .ok (.iconst 1, 1) := by decide +kernel
theorem dX11_isSide_15 : decode cX11_isSide 15 = .ok (.goto 4, 3) := by decide +kernel
theorem dX11_isSide_18 : decode cX11_isSide 18 = .ok (.iconst 0, 1) := by decide +kernel
theorem dX11_isSide_19 : decode cX11_isSide 19 = .ok (.ireturn, 1) := by decide +kernel
theorem ok_yX11_isSide : yOk yX11_isSide 1 := ⟨by decide +kernel, by decide +kernel, by decide +kernel⟩
def fX11_isSide (a0 : Int64) : Bool := if lg_cmp a0 (0 : Int64) < 0 then (false) else (if 0 ≤ lg_cmp a0 (20 : Int64) then (false) else (true))
set_option maxHeartbeats 4000000 in
theorem zX11_isSide (l : Launch) (X : WX) (st : St) (a0 : Int64) : CtI l yX11_isSide cX11_isSide 2 .boolean ({ frames := 0, cells := 0, slots := 0, locals := 0 }) EC 65 X [.long a0] st (bI (fX11_isSide a0)) st := by
  generalize hf : fX11_isSide a0 = R
  refine ct_in (own := RX11) (by decide +kernel) rfl (Nat.le_of_ble_eq_true rfl) (fun p e s m below meth c C hr hw ls hl => ?_)
  obtain ⟨hx, hb, hml, hown, hts⟩ := id C.1
  have hl : lv_has ls 2 [(0, .long a0)] := hl
  unfold fX11_isSide at hf
  refine lv_lload_n hx hb dX11_isSide_0 rfl (lv_at hl 0 rfl) ?_
  refine lv_lconst (v := 0) hx hb dX11_isSide_1 (by decide) ?_
  refine W.lcmp hx hb dX11_isSide_2 ?_
  refine lv_if_lt (tgt := 18) hx hb dX11_isSide_3 (by decide) (fun c1 => ?_) (fun c1 => ?_)
  · replace hf := ite_t hf c1
    refine lv_iconst (v := 0) hx hb dX11_isSide_18 (by decide) ?_
    exact w_zret (b := false) C hw hr rfl hf rfl dX11_isSide_19
  · replace hf := ite_f hf c1
    refine lv_lload_n hx hb dX11_isSide_6 rfl (lv_at hl 0 rfl) ?_
    refine lv_ldc2 (v := 20) hx hb hown (hts _ kn_X11_436) dX11_isSide_7 ?_
    refine W.lcmp hx hb dX11_isSide_10 ?_
    refine lv_if_ge (tgt := 18) hx hb dX11_isSide_11 (by decide) (fun c2 => ?_) (fun c2 => ?_)
    · replace hf := ite_t hf c2
      refine lv_iconst (v := 0) hx hb dX11_isSide_18 (by decide) ?_
      exact w_zret (b := false) C hw hr rfl hf rfl dX11_isSide_19
    · replace hf := ite_f hf c2
      refine lv_iconst (v := 1) hx hb dX11_isSide_14 (by decide) ?_
      refine lv_goto (tgt := 19) hx hb dX11_isSide_15 (by decide) ?_
      exact w_zret (b := true) C hw hr rfl hf rfl dX11_isSide_19
theorem dX11_isPerson_0 : decode cX11_isPerson 0 = .ok (.iload_n 0, 1) := by decide +kernel
theorem dX11_isPerson_1 : decode cX11_isPerson 1 = .ok (.iconst 0, 1) := by decide +kernel
theorem dX11_isPerson_2 : decode cX11_isPerson 2 = .ok (.iconst 5, 1) := by decide +kernel
theorem dX11_isPerson_3 : decode cX11_isPerson 3 = .ok (.invokestatic 117, 3) := by decide +kernel
theorem dX11_isPerson_6 : decode cX11_isPerson 6 = .ok (.ireturn, 1) := by decide +kernel
theorem ok_yX11_isPerson : yOk yX11_isPerson 1 := ⟨by decide +kernel, by decide +kernel, by decide +kernel⟩
def fX11_isPerson (a0 : Int32) : Bool := (fX11_isWithin a0 (0 : Int32) (5 : Int32))
set_option maxHeartbeats 4000000 in
theorem zX11_isPerson (l : Launch) (X : WX) (st : St) (a0 : Int32) : CtI l yX11_isPerson cX11_isPerson 1 .boolean ({ frames := 1, cells := 0, slots := 0, locals := 22 }) EC 65 X [.int a0] st (bI (fX11_isPerson a0)) st := by
  generalize hf : fX11_isPerson a0 = R
  refine ct_in (own := RX11) (by decide +kernel) rfl (Nat.le_of_ble_eq_true rfl) (fun p e s m below meth c C hr hw ls hl => ?_)
  obtain ⟨hx, hb, hml, hown, hts⟩ := id C.1
  have hl : lv_has ls 1 [(0, .int a0)] := hl
  unfold fX11_isPerson at hf
  refine lv_iload_n hx hb dX11_isPerson_0 rfl (lv_at hl 0 rfl) ?_
  refine lv_iconst (v := 0) hx hb dX11_isPerson_1 (by decide) ?_
  refine lv_iconst (v := 5) hx hb dX11_isPerson_2 (by decide) ?_
  refine w_goI hw (w_runS (rest := []) C hw (zX11_isWithin _ _ st a0 (0 : Int32) (5 : Int32)) km_X11_117 kt_yX11_isWithin kz_X11 kc_X11_isWithin ok_yX11_isWithin ⟨Nat.le_of_ble_eq_true rfl, Nat.le_of_ble_eq_true rfl⟩ rfl rfl rfl rfl hl.1 (Nat.le_of_ble_eq_true rfl) dX11_isPerson_3 ⟨Nat.zero_le _, Nat.zero_le _⟩) (fun H locs hw => ?_)
  exact w_zret (b := (fX11_isWithin a0 (0 : Int32) (5 : Int32))) C hw hr rfl hf rfl dX11_isPerson_6
theorem dX11_isPair_0 : decode cX11_isPair 0 = .ok (.iload_n 0, 1) := by decide +kernel
theorem dX11_isPair_1 : decode cX11_isPair 1 = .ok (.ifCond .lt 27, 3) := by decide +kernel
theorem dX11_isPair_4 : decode cX11_isPair 4 = .ok (.iload_n 0, 1) := by decide +kernel
theorem dX11_isPair_5 : decode cX11_isPair 5 = .ok (.bipush 10, 2) := by decide +kernel
theorem dX11_isPair_7 : decode cX11_isPair 7 = .ok (.idiv, 1) := by decide +kernel
theorem dX11_isPair_8 : decode cX11_isPair 8 = .ok (.invokestatic 151, 3) := by decide +kernel
theorem dX11_isPair_11 : decode cX11_isPair 11 = .ok (.ifCond .eq 17, 3) := by decide +kernel
theorem dX11_isPair_14 : decode cX11_isPair 14 = .ok (.iload_n 0, 1) := by decide +kernel
theorem dX11_isPair_15 : decode cX11_isPair 15 = .ok (.bipush 10, 2) := by decide +kernel
theorem dX11_isPair_17 : decode cX11_isPair 17 = .ok (.irem, 1) := by decide +kernel
theorem dX11_isPair_18 : decode cX11_isPair 18 = .ok (.invokestatic 151, 3) := by decide +kernel
theorem dX11_isPair_21 : decode cX11_isPair 21 = .ok (.ifCond .eq 7, 3) := by decide +kernel
theorem dX11_isPair_24 : decode cX11_isPair 24 = .ok (.iconst 1, 1) := by decide +kernel
theorem dX11_isPair_25 : decode cX11_isPair 25 = .ok (.goto 4, 3) := by decide +kernel
theorem dX11_isPair_28 : decode cX11_isPair 28 = .ok (.iconst 0, 1) := by decide +kernel
theorem dX11_isPair_29 : decode cX11_isPair 29 = .ok (.ireturn, 1) := by decide +kernel
theorem ok_yX11_isPair : yOk yX11_isPair 1 := ⟨by decide +kernel, by decide +kernel, by decide +kernel⟩
def fX11_isPair (a0 : Int32) : Bool := if a0 < 0 then (false) else (if bI (fX11_isPerson (a0 / (10 : Int32))) = 0 then (false) else (if bI (fX11_isPerson (rmI a0 (10 : Int32))) = 0 then (false) else (true)))
set_option maxHeartbeats 4000000 in
theorem zX11_isPair (l : Launch) (X : WX) (st : St) (a0 : Int32) : CtI l yX11_isPair cX11_isPair 1 .boolean ({ frames := 2, cells := 0, slots := 0, locals := 42 }) EC 65 X [.int a0] st (bI (fX11_isPair a0)) st := by
  generalize hf : fX11_isPair a0 = R
  refine ct_in (own := RX11) (by decide +kernel) rfl (Nat.le_of_ble_eq_true rfl) (fun p e s m below meth c C hr hw ls hl => ?_)
  obtain ⟨hx, hb, hml, hown, hts⟩ := id C.1
  have hl : lv_has ls 1 [(0, .int a0)] := hl
  unfold fX11_isPair at hf
  refine lv_iload_n hx hb dX11_isPair_0 rfl (lv_at hl 0 rfl) ?_
  refine lv_if_lt (tgt := 28) hx hb dX11_isPair_1 (by decide) (fun c1 => ?_) (fun c1 => ?_)
  · replace hf := ite_t hf c1
    refine lv_iconst (v := 0) hx hb dX11_isPair_28 (by decide) ?_
    exact w_zret (b := false) C hw hr rfl hf rfl dX11_isPair_29
  · replace hf := ite_f hf c1
    refine lv_iload_n hx hb dX11_isPair_4 rfl (lv_at hl 0 rfl) ?_
    refine lv_bipush (v := 10) hx hb dX11_isPair_5 (by decide) ?_
    refine lv_idiv hx hb dX11_isPair_7 (by decide) ?_
    refine w_goI hw (w_runS (rest := []) C hw (zX11_isPerson _ _ st (a0 / (10 : Int32))) km_X11_151 kt_yX11_isPerson kz_X11 kc_X11_isPerson ok_yX11_isPerson ⟨Nat.le_of_ble_eq_true rfl, Nat.le_of_ble_eq_true rfl⟩ rfl rfl rfl rfl hl.1 (Nat.le_of_ble_eq_true rfl) dX11_isPair_8 ⟨Nat.zero_le _, Nat.zero_le _⟩) (fun H locs hw => ?_)
    refine lv_if_eq (tgt := 28) hx hb dX11_isPair_11 (by decide) (fun c2 => ?_) (fun c2 => ?_)
    · replace hf := ite_t hf c2
      refine lv_iconst (v := 0) hx hb dX11_isPair_28 (by decide) ?_
      exact w_zret (b := false) C hw hr rfl hf rfl dX11_isPair_29
    · replace hf := ite_f hf c2
      refine lv_iload_n hx hb dX11_isPair_14 rfl (lv_at hl 0 rfl) ?_
      refine lv_bipush (v := 10) hx hb dX11_isPair_15 (by decide) ?_
      refine w_irem C (by decide) dX11_isPair_17 ?_
      refine w_goI hw (w_runS (rest := []) C hw (zX11_isPerson _ _ st (rmI a0 (10 : Int32))) km_X11_151 kt_yX11_isPerson kz_X11 kc_X11_isPerson ok_yX11_isPerson ⟨Nat.le_of_ble_eq_true rfl, Nat.le_of_ble_eq_true rfl⟩ rfl rfl rfl rfl hl.1 (Nat.le_of_ble_eq_true rfl) dX11_isPair_18 ⟨Nat.zero_le _, Nat.zero_le _⟩) (fun H locs hw => ?_)
      refine lv_if_eq (tgt := 28) hx hb dX11_isPair_21 (by decide) (fun c3 => ?_) (fun c3 => ?_)
      · replace hf := ite_t hf c3
        refine lv_iconst (v := 0) hx hb dX11_isPair_28 (by decide) ?_
        exact w_zret (b := false) C hw hr rfl hf rfl dX11_isPair_29
      · replace hf := ite_f hf c3
        refine lv_iconst (v := 1) hx hb dX11_isPair_24 (by decide) ?_
        refine lv_goto (tgt := 29) hx hb dX11_isPair_25 (by decide) ?_
        exact w_zret (b := true) C hw hr rfl hf rfl dX11_isPair_29
theorem dX11_debtAt_0 : decode cX11_debtAt 0 = .ok (.bipush 6, 2) := by decide +kernel
theorem dX11_debtAt_2 : decode cX11_debtAt 2 = .ok (.iload_n 0, 1) := by decide +kernel
theorem dX11_debtAt_3 : decode cX11_debtAt 3 = .ok (.bipush 10, 2) := by decide +kernel
theorem dX11_debtAt_5 : decode cX11_debtAt 5 = .ok (.idiv, 1) := by decide +kernel
theorem dX11_debtAt_6 : decode cX11_debtAt 6 = .ok (.imul, 1) := by decide +kernel
theorem dX11_debtAt_7 : decode cX11_debtAt 7 = .ok (.iload_n 0, 1) := by decide +kernel
theorem dX11_debtAt_8 : decode cX11_debtAt 8 = .ok (.bipush 10, 2) := by decide +kernel
theorem dX11_debtAt_10 : decode cX11_debtAt 10 = .ok (.irem, 1) := by decide +kernel
theorem dX11_debtAt_11 : decode cX11_debtAt 11 = .ok (.iadd, 1) := by decide +kernel
theorem dX11_debtAt_12 : decode cX11_debtAt 12 = .ok (.ireturn, 1) := by decide +kernel
theorem ok_yX11_debtAt : yOk yX11_debtAt 1 := ⟨by decide +kernel, by decide +kernel, by decide +kernel⟩
def fX11_debtAt (a0 : Int32) : Int32 := (((6 : Int32) * (a0 / (10 : Int32))) + (rmI a0 (10 : Int32)))
set_option maxHeartbeats 4000000 in
theorem zX11_debtAt (l : Launch) (X : WX) (st : St) (a0 : Int32) : CtI l yX11_debtAt cX11_debtAt 1 .int ({ frames := 0, cells := 0, slots := 0, locals := 0 }) EC 65 X [.int a0] st (fX11_debtAt a0) st := by
  generalize hf : fX11_debtAt a0 = R
  refine ct_in (own := RX11) (by decide +kernel) rfl (Nat.le_of_ble_eq_true rfl) (fun p e s m below meth c C hr hw ls hl => ?_)
  obtain ⟨hx, hb, hml, hown, hts⟩ := id C.1
  have hl : lv_has ls 1 [(0, .int a0)] := hl
  unfold fX11_debtAt at hf
  refine lv_bipush (v := 6) hx hb dX11_debtAt_0 (by decide) ?_
  refine lv_iload_n hx hb dX11_debtAt_2 rfl (lv_at hl 0 rfl) ?_
  refine lv_bipush (v := 10) hx hb dX11_debtAt_3 (by decide) ?_
  refine lv_idiv hx hb dX11_debtAt_5 (by decide) ?_
  refine lv_imul hx hb dX11_debtAt_6 ?_
  refine lv_iload_n hx hb dX11_debtAt_7 rfl (lv_at hl 0 rfl) ?_
  refine lv_bipush (v := 10) hx hb dX11_debtAt_8 (by decide) ?_
  refine w_irem C (by decide) dX11_debtAt_10 ?_
  refine lv_iadd hx hb dX11_debtAt_11 ?_
  exact w_iret C hw hr hf rfl dX11_debtAt_12
theorem dJ6_bitCount_0f7a4_0 : decode cJ6_bitCount_0f7a4 0 = .ok (.iload_n 0, 1) := by decide +kernel
theorem dJ6_bitCount_0f7a4_1 : decode cJ6_bitCount_0f7a4 1 = .ok (.iload_n 0, 1) := by decide +kernel
theorem dJ6_bitCount_0f7a4_2 : decode cJ6_bitCount_0f7a4 2 = .ok (.iconst 1, 1) := by decide +kernel
theorem dJ6_bitCount_0f7a4_3 : decode cJ6_bitCount_0f7a4 3 = .ok (.iushr, 1) := by decide +kernel
theorem dJ6_bitCount_0f7a4_4 : decode cJ6_bitCount_0f7a4 4 = .ok (.ldc_w 265, 3) := by decide +kernel
theorem dJ6_bitCount_0f7a4_7 : decode cJ6_bitCount_0f7a4 7 = .ok (.iand, 1) := by decide +kernel
theorem dJ6_bitCount_0f7a4_8 : decode cJ6_bitCount_0f7a4 8 = .ok (.isub, 1) := by decide +kernel
theorem dJ6_bitCount_0f7a4_9 : decode cJ6_bitCount_0f7a4 9 = .ok (.istore_n 0, 1) := by decide +kernel
theorem dJ6_bitCount_0f7a4_10 : decode cJ6_bitCount_0f7a4 10 = .ok (.iload_n 0, 1) := by decide +kernel
theorem dJ6_bitCount_0f7a4_11 : decode cJ6_bitCount_0f7a4 11 = .ok (.ldc_w 266, 3) := by decide +kernel
theorem dJ6_bitCount_0f7a4_14 : decode cJ6_bitCount_0f7a4 14 = .ok (.iand, 1) := by decide +kernel
theorem dJ6_bitCount_0f7a4_15 : decode cJ6_bitCount_0f7a4 15 = .ok (.iload_n 0, 1) := by decide +kernel
theorem dJ6_bitCount_0f7a4_16 : decode cJ6_bitCount_0f7a4 16 = .ok (.iconst 2, 1) := by decide +kernel
theorem dJ6_bitCount_0f7a4_17 : decode cJ6_bitCount_0f7a4 17 = .ok (.iushr, 1) := by decide +kernel
theorem dJ6_bitCount_0f7a4_18 : decode cJ6_bitCount_0f7a4 18 = .ok (.ldc_w 266, 3) := by decide +kernel
theorem dJ6_bitCount_0f7a4_21 : decode cJ6_bitCount_0f7a4 21 = .ok (.iand, 1) := by decide +kernel
theorem dJ6_bitCount_0f7a4_22 : decode cJ6_bitCount_0f7a4 22 = .ok (.iadd, 1) := by decide +kernel
theorem dJ6_bitCount_0f7a4_23 : decode cJ6_bitCount_0f7a4 23 = .ok (.istore_n 0, 1) := by decide +kernel
theorem dJ6_bitCount_0f7a4_24 : decode cJ6_bitCount_0f7a4 24 = .ok (.iload_n 0, 1) := by decide +kernel
theorem dJ6_bitCount_0f7a4_25 : decode cJ6_bitCount_0f7a4 25 = .ok (.iload_n 0, 1) := by decide +kernel
theorem dJ6_bitCount_0f7a4_26 : decode cJ6_bitCount_0f7a4 26 = .ok (.iconst 4, 1) := by decide +kernel
theorem dJ6_bitCount_0f7a4_27 : decode cJ6_bitCount_0f7a4 27 = .ok (.iushr, 1) := by decide +kernel
theorem dJ6_bitCount_0f7a4_28 : decode cJ6_bitCount_0f7a4 28 = .ok (.iadd, 1) := by decide +kernel
theorem dJ6_bitCount_0f7a4_29 : decode cJ6_bitCount_0f7a4 29 = .ok (.ldc_w 267, 3) := by decide +kernel
theorem dJ6_bitCount_0f7a4_32 : decode cJ6_bitCount_0f7a4 32 = .ok (.iand, 1) := by decide +kernel
theorem dJ6_bitCount_0f7a4_33 : decode cJ6_bitCount_0f7a4 33 = .ok (.istore_n 0, 1) := by decide +kernel
theorem dJ6_bitCount_0f7a4_34 : decode cJ6_bitCount_0f7a4 34 = .ok (.iload_n 0, 1) := by decide +kernel
theorem dJ6_bitCount_0f7a4_35 : decode cJ6_bitCount_0f7a4 35 = .ok (.iload_n 0, 1) := by decide +kernel
theorem dJ6_bitCount_0f7a4_36 : decode cJ6_bitCount_0f7a4 36 = .ok (.bipush 8, 2) := by decide +kernel
theorem dJ6_bitCount_0f7a4_38 : decode cJ6_bitCount_0f7a4 38 = .ok (.iushr, 1) := by decide +kernel
theorem dJ6_bitCount_0f7a4_39 : decode cJ6_bitCount_0f7a4 39 = .ok (.iadd, 1) := by decide +kernel
theorem dJ6_bitCount_0f7a4_40 : decode cJ6_bitCount_0f7a4 40 = .ok (.istore_n 0, 1) := by decide +kernel
theorem dJ6_bitCount_0f7a4_41 : decode cJ6_bitCount_0f7a4 41 = .ok (.iload_n 0, 1) := by decide +kernel
theorem dJ6_bitCount_0f7a4_42 : decode cJ6_bitCount_0f7a4 42 = .ok (.iload_n 0, 1) := by decide +kernel
theorem dJ6_bitCount_0f7a4_43 : decode cJ6_bitCount_0f7a4 43 = .ok (.bipush 16, 2) := by decide +kernel
theorem dJ6_bitCount_0f7a4_45 : decode cJ6_bitCount_0f7a4 45 = .ok (.iushr, 1) := by decide +kernel
theorem dJ6_bitCount_0f7a4_46 : decode cJ6_bitCount_0f7a4 46 = .ok (.iadd, 1) := by decide +kernel
theorem dJ6_bitCount_0f7a4_47 : decode cJ6_bitCount_0f7a4 47 = .ok (.istore_n 0, 1) := by decide +kernel
theorem dJ6_bitCount_0f7a4_48 : decode cJ6_bitCount_0f7a4 48 = .ok (.iload_n 0, 1) := by decide +kernel
theorem dJ6_bitCount_0f7a4_49 : decode cJ6_bitCount_0f7a4 49 = .ok (.bipush 63, 2) := by decide +kernel
theorem dJ6_bitCount_0f7a4_51 : decode cJ6_bitCount_0f7a4 51 = .ok (.iand, 1) := by decide +kernel
theorem dJ6_bitCount_0f7a4_52 : decode cJ6_bitCount_0f7a4 52 = .ok (.ireturn, 1) := by decide +kernel
theorem ok_yJ6_bitCount_0f7a4 : yOk yJ6_bitCount_0f7a4 1 := ⟨by decide +kernel, by decide +kernel, by decide +kernel⟩
def fJ6_bitCount_0f7a4 (a0 : Int32) : Int32 := bnd (a0 - ((usI a0 (1 : Int32)) &&& (1431655765 : Int32))) (fun x1 => bnd ((x1 &&& (858993459 : Int32)) + ((usI x1 (2 : Int32)) &&& (858993459 : Int32))) (fun x3 => bnd ((x3 + (usI x3 (4 : Int32))) &&& (252645135 : Int32)) (fun x5 => bnd (x5 + (usI x5 (8 : Int32))) (fun x7 => bnd (x7 + (usI x7 (16 : Int32))) (fun x9 => (x9 &&& (63 : Int32)))))))
set_option maxHeartbeats 4000000 in
theorem zJ6_bitCount_0f7a4 (l : Launch) (X : WX) (st : St) (a0 : Int32) : CtI l yJ6_bitCount_0f7a4 cJ6_bitCount_0f7a4 1 .int ({ frames := 0, cells := 0, slots := 0, locals := 0 }) EC 65 X [.int a0] st (fJ6_bitCount_0f7a4 a0) st := by
  generalize hf : fJ6_bitCount_0f7a4 a0 = R
  refine ct_in (own := RJ6) (by decide +kernel) rfl (Nat.le_of_ble_eq_true rfl) (fun p e s m below meth c C hr hw ls hl => ?_)
  obtain ⟨hx, hb, hml, hown, hts⟩ := id C.1
  have hl : lv_has ls 1 [(0, .int a0)] := hl
  unfold fJ6_bitCount_0f7a4 at hf
  refine lv_iload_n hx hb dJ6_bitCount_0f7a4_0 rfl (lv_at hl 0 rfl) ?_
  refine lv_iload_n hx hb dJ6_bitCount_0f7a4_1 rfl (lv_at hl 0 rfl) ?_
  refine lv_iconst (v := 1) hx hb dJ6_bitCount_0f7a4_2 (by decide) ?_
  refine lv_iushr (v := usI a0 (1 : Int32)) hx hb dJ6_bitCount_0f7a4_3 rfl ?_
  refine lv_ldcw (v := 1431655765) hx hb hown (hts _ kn_J6_265) dJ6_bitCount_0f7a4_4 ?_
  refine lv_iand hx hb dJ6_bitCount_0f7a4_7 ?_
  refine lv_isub hx hb dJ6_bitCount_0f7a4_8 ?_
  refine lv_topi (fun x1 e2 => ?_)
  replace hf := bnd_nm hf e2
  refine lv_istore_n (lv' := [(0, .int x1)]) hx hb dJ6_bitCount_0f7a4_9 rfl hl (by decide) rfl (fun ls hl => ?_)
  refine lv_iload_n hx hb dJ6_bitCount_0f7a4_10 rfl (lv_at hl 0 rfl) ?_
  refine lv_ldcw (v := 858993459) hx hb hown (hts _ kn_J6_266) dJ6_bitCount_0f7a4_11 ?_
  refine lv_iand hx hb dJ6_bitCount_0f7a4_14 ?_
  refine lv_iload_n hx hb dJ6_bitCount_0f7a4_15 rfl (lv_at hl 0 rfl) ?_
  refine lv_iconst (v := 2) hx hb dJ6_bitCount_0f7a4_16 (by decide) ?_
  refine lv_iushr (v := usI x1 (2 : Int32)) hx hb dJ6_bitCount_0f7a4_17 rfl ?_
  refine lv_ldcw (v := 858993459) hx hb hown (hts _ kn_J6_266) dJ6_bitCount_0f7a4_18 ?_
  refine lv_iand hx hb dJ6_bitCount_0f7a4_21 ?_
  refine lv_iadd hx hb dJ6_bitCount_0f7a4_22 ?_
  refine lv_topi (fun x3 e4 => ?_)
  replace hf := bnd_nm hf e4
  refine lv_istore_n (lv' := [(0, .int x3)]) hx hb dJ6_bitCount_0f7a4_23 rfl hl (by decide) rfl (fun ls hl => ?_)
  refine lv_iload_n hx hb dJ6_bitCount_0f7a4_24 rfl (lv_at hl 0 rfl) ?_
  refine lv_iload_n hx hb dJ6_bitCount_0f7a4_25 rfl (lv_at hl 0 rfl) ?_
  refine lv_iconst (v := 4) hx hb dJ6_bitCount_0f7a4_26 (by decide) ?_
  refine lv_iushr (v := usI x3 (4 : Int32)) hx hb dJ6_bitCount_0f7a4_27 rfl ?_
  refine lv_iadd hx hb dJ6_bitCount_0f7a4_28 ?_
  refine lv_ldcw (v := 252645135) hx hb hown (hts _ kn_J6_267) dJ6_bitCount_0f7a4_29 ?_
  refine lv_iand hx hb dJ6_bitCount_0f7a4_32 ?_
  refine lv_topi (fun x5 e6 => ?_)
  replace hf := bnd_nm hf e6
  refine lv_istore_n (lv' := [(0, .int x5)]) hx hb dJ6_bitCount_0f7a4_33 rfl hl (by decide) rfl (fun ls hl => ?_)
  refine lv_iload_n hx hb dJ6_bitCount_0f7a4_34 rfl (lv_at hl 0 rfl) ?_
  refine lv_iload_n hx hb dJ6_bitCount_0f7a4_35 rfl (lv_at hl 0 rfl) ?_
  refine lv_bipush (v := 8) hx hb dJ6_bitCount_0f7a4_36 (by decide) ?_
  refine lv_iushr (v := usI x5 (8 : Int32)) hx hb dJ6_bitCount_0f7a4_38 rfl ?_
  refine lv_iadd hx hb dJ6_bitCount_0f7a4_39 ?_
  refine lv_topi (fun x7 e8 => ?_)
  replace hf := bnd_nm hf e8
  refine lv_istore_n (lv' := [(0, .int x7)]) hx hb dJ6_bitCount_0f7a4_40 rfl hl (by decide) rfl (fun ls hl => ?_)
  refine lv_iload_n hx hb dJ6_bitCount_0f7a4_41 rfl (lv_at hl 0 rfl) ?_
  refine lv_iload_n hx hb dJ6_bitCount_0f7a4_42 rfl (lv_at hl 0 rfl) ?_
  refine lv_bipush (v := 16) hx hb dJ6_bitCount_0f7a4_43 (by decide) ?_
  refine lv_iushr (v := usI x7 (16 : Int32)) hx hb dJ6_bitCount_0f7a4_45 rfl ?_
  refine lv_iadd hx hb dJ6_bitCount_0f7a4_46 ?_
  refine lv_topi (fun x9 e10 => ?_)
  replace hf := bnd_nm hf e10
  refine lv_istore_n (lv' := [(0, .int x9)]) hx hb dJ6_bitCount_0f7a4_47 rfl hl (by decide) rfl (fun ls hl => ?_)
  refine lv_iload_n hx hb dJ6_bitCount_0f7a4_48 rfl (lv_at hl 0 rfl) ?_
  refine lv_bipush (v := 63) hx hb dJ6_bitCount_0f7a4_49 (by decide) ?_
  refine lv_iand hx hb dJ6_bitCount_0f7a4_51 ?_
  exact w_iret C hw hr hf rfl dJ6_bitCount_0f7a4_52
theorem dX11_isKind_0 : decode cX11_isKind 0 = .ok (.iload_n 0, 1) := by decide +kernel
theorem dX11_isKind_1 : decode cX11_isKind 1 = .ok (.iconst 0, 1) := by decide +kernel
theorem dX11_isKind_2 : decode cX11_isKind 2 = .ok (.bipush 7, 2) := by decide +kernel
theorem dX11_isKind_4 : decode cX11_isKind 4 = .ok (.invokestatic 117, 3) := by decide +kernel
theorem dX11_isKind_7 : decode cX11_isKind 7 = .ok (.ireturn, 1) := by decide +kernel
theorem ok_yX11_isKind : yOk yX11_isKind 1 := ⟨by decide +kernel, by decide +kernel, by decide +kernel⟩
def fX11_isKind (a0 : Int32) : Bool := (fX11_isWithin a0 (0 : Int32) (7 : Int32))
set_option maxHeartbeats 4000000 in
theorem zX11_isKind (l : Launch) (X : WX) (st : St) (a0 : Int32) : CtI l yX11_isKind cX11_isKind 1 .boolean ({ frames := 1, cells := 0, slots := 0, locals := 22 }) EC 65 X [.int a0] st (bI (fX11_isKind a0)) st := by
  generalize hf : fX11_isKind a0 = R
  refine ct_in (own := RX11) (by decide +kernel) rfl (Nat.le_of_ble_eq_true rfl) (fun p e s m below meth c C hr hw ls hl => ?_)
  obtain ⟨hx, hb, hml, hown, hts⟩ := id C.1
  have hl : lv_has ls 1 [(0, .int a0)] := hl
  unfold fX11_isKind at hf
  refine lv_iload_n hx hb dX11_isKind_0 rfl (lv_at hl 0 rfl) ?_
  refine lv_iconst (v := 0) hx hb dX11_isKind_1 (by decide) ?_
  refine lv_bipush (v := 7) hx hb dX11_isKind_2 (by decide) ?_
  refine w_goI hw (w_runS (rest := []) C hw (zX11_isWithin _ _ st a0 (0 : Int32) (7 : Int32)) km_X11_117 kt_yX11_isWithin kz_X11 kc_X11_isWithin ok_yX11_isWithin ⟨Nat.le_of_ble_eq_true rfl, Nat.le_of_ble_eq_true rfl⟩ rfl rfl rfl rfl hl.1 (Nat.le_of_ble_eq_true rfl) dX11_isKind_4 ⟨Nat.zero_le _, Nat.zero_le _⟩) (fun H locs hw => ?_)
  exact w_zret (b := (fX11_isWithin a0 (0 : Int32) (7 : Int32))) C hw hr rfl hf rfl dX11_isKind_7
