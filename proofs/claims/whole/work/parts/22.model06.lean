theorem dX12_falling_0 : decode cX12_falling 0 = .ok (.aload_n 0, 1) := by decide +kernel
theorem dX12_falling_1 : decode cX12_falling 1 = .ok (.getfield 121, 3) := by decide +kernel
theorem dX12_falling_4 : decode cX12_falling 4 = .ok (.iload_n 1, 1) := by decide +kernel
theorem dX12_falling_5 : decode cX12_falling 5 = .ok (.iaload, 1) := by decide +kernel
theorem dX12_falling_6 : decode cX12_falling 6 = .ok (.iconst 1, 1) := by decide +kernel
theorem dX12_falling_7 : decode cX12_falling 7 = .ok (.invokestatic 418, 3) := by decide +kernel
theorem dX12_falling_10 : decode cX12_falling 10 = .ok (.ifCond .eq 18, 3) := by decide +kernel
theorem dX12_falling_13 : decode cX12_falling 13 = .ok (.aload_n 0, 1) := by decide +kernel
theorem dX12_falling_14 : decode cX12_falling 14 = .ok (.bipush 20, 2) := by decide +kernel
theorem dX12_falling_16 : decode cX12_falling 16 = .ok (.invokevirtual 411, 3) := by decide +kernel
theorem dX12_falling_19 : decode cX12_falling 19 = .ok (.aload_n 0, 1) := by decide +kernel
theorem dX12_falling_20 : decode cX12_falling 20 = .ok (.iload_n 1, 1) := by decide +kernel
theorem dX12_falling_21 : decode cX12_falling 21 = .ok (.iload_n 2, 1) := by decide +kernel
theorem dX12_falling_22 : decode cX12_falling 22 = .ok (.invokevirtual 415, 3) := by decide +kernel
theorem dX12_falling_25 : decode cX12_falling 25 = .ok (.iconst 3, 1) := by decide +kernel
theorem dX12_falling_26 : decode cX12_falling 26 = .ok (.iadd, 1) := by decide +kernel
theorem dX12_falling_27 : decode cX12_falling 27 = .ok (.ireturn, 1) := by decide +kernel
theorem dX12_falling_28 : decode cX12_falling 28 = .ok (.aload_n 0, 1) := by decide +kernel
theorem dX12_falling_29 : decode cX12_falling 29 = .ok (.getfield 121, 3) := by decide +kernel
theorem dX12_falling_32 : decode cX12_falling 32 = .ok (.iload_n 1, 1) := by decide +kernel
theorem dX12_falling_33 : decode cX12_falling 33 = .ok (.iaload, 1) := by decide +kernel
theorem dX12_falling_34 : decode cX12_falling 34 = .ok (.bipush 7, 2) := by decide +kernel
theorem dX12_falling_36 : decode cX12_falling 36 = .ok (.if_icmp .ne 18, 3) := by decide +kernel
theorem dX12_falling_39 : decode cX12_falling 39 = .ok (.aload_n 0, 1) := by decide +kernel
theorem dX12_falling_40 : decode cX12_falling 40 = .ok (.bipush 81, 2) := by decide +kernel
theorem dX12_falling_42 : decode cX12_falling 42 = .ok (.invokevirtual 411, 3) := by decide +kernel
theorem dX12_falling_45 : decode cX12_falling 45 = .ok (.aload_n 0, 1) := by decide +kernel
theorem dX12_falling_46 : decode cX12_falling 46 = .ok (.iload_n 1, 1) := by decide +kernel
theorem dX12_falling_47 : decode cX12_falling 47 = .ok (.iload_n 2, 1) := by decide +kernel
theorem dX12_falling_48 : decode cX12_falling 48 = .ok (.invokevirtual 421, 3) := by decide +kernel
theorem dX12_falling_51 : decode cX12_falling 51 = .ok (.iconst 1, 1) := by decide +kernel
theorem dX12_falling_52 : decode cX12_falling 52 = .ok (.isub, 1) := by decide +kernel
theorem dX12_falling_53 : decode cX12_falling 53 = .ok (.ireturn, 1) := by decide +kernel
theorem dX12_falling_54 : decode cX12_falling 54 = .ok (.aload_n 0, 1) := by decide +kernel
theorem dX12_falling_55 : decode cX12_falling 55 = .ok (.getfield 121, 3) := by decide +kernel
theorem dX12_falling_58 : decode cX12_falling 58 = .ok (.iload_n 1, 1) := by decide +kernel
theorem dX12_falling_59 : decode cX12_falling 59 = .ok (.iaload, 1) := by decide +kernel
theorem dX12_falling_60 : decode cX12_falling 60 = .ok (.bipush 6, 2) := by decide +kernel
theorem dX12_falling_62 : decode cX12_falling 62 = .ok (.if_icmp .ne 12, 3) := by decide +kernel
theorem dX12_falling_65 : decode cX12_falling 65 = .ok (.aload_n 0, 1) := by decide +kernel
theorem dX12_falling_66 : decode cX12_falling 66 = .ok (.iload_n 1, 1) := by decide +kernel
theorem dX12_falling_67 : decode cX12_falling 67 = .ok (.iload_n 2, 1) := by decide +kernel
theorem dX12_falling_68 : decode cX12_falling 68 = .ok (.invokevirtual 421, 3) := by decide +kernel
theorem dX12_falling_71 : decode cX12_falling 71 = .ok (.goto 9, 3) := by decide +kernel
theorem dX12_falling_74 : decode cX12_falling 74 = .ok (.aload_n 0, 1) := by decide +kernel
theorem dX12_falling_75 : decode cX12_falling 75 = .ok (.iload_n 1, 1) := by decide +kernel
theorem dX12_falling_76 : decode cX12_falling 76 = .ok (.iload_n 2, 1) := by decide +kernel
theorem dX12_falling_77 : decode cX12_falling 77 = .ok (.invokevirtual 415, 3) := by decide +kernel
theorem dX12_falling_80 : decode cX12_falling 80 = .ok (.ireturn, 1) := by decide +kernel
theorem ok_yX12_falling : yOk yX12_falling 2 := ⟨by decide +kernel, by decide +kernel, by decide +kernel⟩
def fX12_falling (st : St) (a1 : Int32) (a2 : Int32) : Option (Int32 × St) := gd (inB a1 50) (if bI (fX12_isUnder (gI st 37 a1.toNatClampNeg) (1 : Int32)) = 0 then (gd (inB a1 50) (if gI st 37 a1.toNatClampNeg = (7 : Int32) then ((fX12_ran st (81 : Int32)).bind (fun r11 => (fX12_pawnFalls r11 a1 a2).bind (fun r13 => some ((r13.1 - (1 : Int32)), r13.2)))) else (gd (inB a1 50) (if gI st 37 a1.toNatClampNeg = (6 : Int32) then ((fX12_pawnFalls st a1 a2).bind (fun r9 => some (r9.1, r9.2))) else ((fX12_plainFalls st a1 a2).bind (fun r7 => some (r7.1, r7.2))))))) else ((fX12_ran st (20 : Int32)).bind (fun r15 => (fX12_plainFalls r15 a1 a2).bind (fun r17 => some ((r17.1 + (3 : Int32)), r17.2)))))
set_option maxHeartbeats 4000000 in
theorem zX12_falling (l : Launch) (X : WX) (st : St) (a1 : Int32) (a2 : Int32) (R : Int32 × St) (hf : fX12_falling st a1 a2 = some R) : CtI l yX12_falling cX12_falling 3 .int ({ frames := 3, cells := 0, slots := 0, locals := 65 }) EM 43 X [.ref (xq X 0), .int a1, .int a2] st R.1 R.2 := by
  refine ct_in (own := RX12) (by decide +kernel) rfl (Nat.le_of_ble_eq_true rfl) (fun p e s m below meth c C hr hw ls hl => ?_)
  obtain ⟨hx, hb, hml, hown, hts⟩ := id C.1
  have hl : lv_has ls 3 [(0, .ref (xq X 0)), (1, .int a1), (2, .int a2)] := hl
  unfold fX12_falling at hf
  refine lv_aload_n hx hb dX12_falling_0 rfl (lv_at hl 0 rfl) ?_
  refine w_get (T := TX12) C hw (by decide) 51 kf_X12_121 (EM_0 X _ _) rfl inA12 (by decide) rfl dX12_falling_1 ?_
  refine lv_iload_n hx hb dX12_falling_4 rfl (lv_at hl 1 rfl) ?_
  obtain ⟨h1, hf⟩ := gd_some hf
  refine w_iald C hw (by decide) (EM_37 X _ _) h1 rfl dX12_falling_5 ?_
  refine lv_iconst (v := 1) hx hb dX12_falling_6 (by decide) ?_
  refine w_goI hw (w_runS (rest := []) C hw (zX12_isUnder _ _ st (gI st 37 a1.toNatClampNeg) (1 : Int32)) km_X12_418 kt_yX12_isUnder kz_X12 kc_X12_isUnder ok_yX12_isUnder ⟨Nat.le_of_ble_eq_true rfl, Nat.le_of_ble_eq_true rfl⟩ rfl rfl rfl rfl hl.1 (Nat.le_of_ble_eq_true rfl) dX12_falling_7 ⟨Nat.zero_le _, Nat.zero_le _⟩) (fun H locs hw => ?_)
  refine lv_if_eq (tgt := 28) hx hb dX12_falling_10 (by decide) (fun c2 => ?_) (fun c2 => ?_)
  · replace hf := ite_t hf c2
    refine lv_aload_n hx hb dX12_falling_28 rfl (lv_at hl 0 rfl) ?_
    refine w_get (T := TX12) C hw (by decide) 51 kf_X12_121 (EM_0 X _ _) rfl inA12 (by decide) rfl dX12_falling_29 ?_
    refine lv_iload_n hx hb dX12_falling_32 rfl (lv_at hl 1 rfl) ?_
    obtain ⟨h3, hf⟩ := gd_some hf
    refine w_iald C hw (by decide) (EM_37 X _ _) h3 rfl dX12_falling_33 ?_
    refine lv_bipush (v := 7) hx hb dX12_falling_34 (by decide) ?_
    refine lv_icmp_ne (tgt := 54) hx hb dX12_falling_36 (by decide) (fun c4 => ?_) (fun c4 => ?_)
    · replace hf := ite_f hf c4
      refine lv_aload_n hx hb dX12_falling_54 rfl (lv_at hl 0 rfl) ?_
      refine w_get (T := TX12) C hw (by decide) 51 kf_X12_121 (EM_0 X _ _) rfl inA12 (by decide) rfl dX12_falling_55 ?_
      refine lv_iload_n hx hb dX12_falling_58 rfl (lv_at hl 1 rfl) ?_
      obtain ⟨h5, hf⟩ := gd_some hf
      refine w_iald C hw (by decide) (EM_37 X _ _) h5 rfl dX12_falling_59 ?_
      refine lv_bipush (v := 6) hx hb dX12_falling_60 (by decide) ?_
      refine lv_icmp_ne (tgt := 74) hx hb dX12_falling_62 (by decide) (fun c6 => ?_) (fun c6 => ?_)
      · replace hf := ite_f hf c6
        refine lv_aload_n hx hb dX12_falling_74 rfl (lv_at hl 0 rfl) ?_
        refine lv_iload_n hx hb dX12_falling_75 rfl (lv_at hl 1 rfl) ?_
        refine lv_iload_n hx hb dX12_falling_76 rfl (lv_at hl 2 rfl) ?_
        obtain ⟨r7, k8, hf⟩ := bd_some hf
        refine w_goI hw (w_runV (rest := []) C hw (zX12_plainFalls _ _ st a1 a2 r7 k8) (by decide) (EM_0 X _ _) rfl km_X12_415 ki_yX12_plainFalls kv_X12_plainFalls kz_X12 kc_X12_plainFalls rfl ok_yX12_plainFalls ⟨Nat.le_of_ble_eq_true rfl, Nat.le_of_ble_eq_true rfl⟩ rfl rfl rfl rfl hl.1 (Nat.le_of_ble_eq_true rfl) dX12_falling_77 ⟨Nat.zero_le _, Nat.zero_le _⟩) (fun H locs hw => ?_)
        exact w_iret C hw hr (so2 hf).1 (so2 hf).2 dX12_falling_80
      · replace hf := ite_t hf c6
        refine lv_aload_n hx hb dX12_falling_65 rfl (lv_at hl 0 rfl) ?_
        refine lv_iload_n hx hb dX12_falling_66 rfl (lv_at hl 1 rfl) ?_
        refine lv_iload_n hx hb dX12_falling_67 rfl (lv_at hl 2 rfl) ?_
        obtain ⟨r9, k10, hf⟩ := bd_some hf
        refine w_goI hw (w_runV (rest := []) C hw (zX12_pawnFalls _ _ st a1 a2 r9 k10) (by decide) (EM_0 X _ _) rfl km_X12_421 ki_yX12_pawnFalls kv_X12_pawnFalls kz_X12 kc_X12_pawnFalls rfl ok_yX12_pawnFalls ⟨Nat.le_of_ble_eq_true rfl, Nat.le_of_ble_eq_true rfl⟩ rfl rfl rfl rfl hl.1 (Nat.le_of_ble_eq_true rfl) dX12_falling_68 ⟨Nat.zero_le _, Nat.zero_le _⟩) (fun H locs hw => ?_)
        refine lv_goto (tgt := 80) hx hb dX12_falling_71 (by decide) ?_
        exact w_iret C hw hr (so2 hf).1 (so2 hf).2 dX12_falling_80
    · replace hf := ite_t hf c4
      refine lv_aload_n hx hb dX12_falling_39 rfl (lv_at hl 0 rfl) ?_
      refine lv_bipush (v := 81) hx hb dX12_falling_40 (by decide) ?_
      obtain ⟨r11, k12, hf⟩ := bd_some hf
      refine w_goV hw (w_runV (rest := []) C hw (zX12_ran _ _ st (81 : Int32) r11 k12) (by decide) (EM_0 X _ _) rfl km_X12_411 ki_yX12_ran kv_X12_ran kz_X12 kc_X12_ran rfl ok_yX12_ran ⟨Nat.le_of_ble_eq_true rfl, Nat.le_of_ble_eq_true rfl⟩ rfl rfl rfl rfl hl.1 (Nat.le_of_ble_eq_true rfl) dX12_falling_42 ⟨Nat.zero_le _, Nat.zero_le _⟩) (fun H locs hw => ?_)
      refine lv_aload_n hx hb dX12_falling_45 rfl (lv_at hl 0 rfl) ?_
      refine lv_iload_n hx hb dX12_falling_46 rfl (lv_at hl 1 rfl) ?_
      refine lv_iload_n hx hb dX12_falling_47 rfl (lv_at hl 2 rfl) ?_
      obtain ⟨r13, k14, hf⟩ := bd_some hf
      refine w_goI hw (w_runV (rest := []) C hw (zX12_pawnFalls _ _ r11 a1 a2 r13 k14) (by decide) (EM_0 X _ _) rfl km_X12_421 ki_yX12_pawnFalls kv_X12_pawnFalls kz_X12 kc_X12_pawnFalls rfl ok_yX12_pawnFalls ⟨Nat.le_of_ble_eq_true rfl, Nat.le_of_ble_eq_true rfl⟩ rfl rfl rfl rfl hl.1 (Nat.le_of_ble_eq_true rfl) dX12_falling_48 ⟨Nat.zero_le _, Nat.zero_le _⟩) (fun H locs hw => ?_)
      refine lv_iconst (v := 1) hx hb dX12_falling_51 (by decide) ?_
      refine lv_isub hx hb dX12_falling_52 ?_
      exact w_iret C hw hr (so2 hf).1 (so2 hf).2 dX12_falling_53
  · replace hf := ite_f hf c2
    refine lv_aload_n hx hb dX12_falling_13 rfl (lv_at hl 0 rfl) ?_
    refine lv_bipush (v := 20) hx hb dX12_falling_14 (by decide) ?_
    obtain ⟨r15, k16, hf⟩ := bd_some hf
    refine w_goV hw (w_runV (rest := []) C hw (zX12_ran _ _ st (20 : Int32) r15 k16) (by decide) (EM_0 X _ _) rfl km_X12_411 ki_yX12_ran kv_X12_ran kz_X12 kc_X12_ran rfl ok_yX12_ran ⟨Nat.le_of_ble_eq_true rfl, Nat.le_of_ble_eq_true rfl⟩ rfl rfl rfl rfl hl.1 (Nat.le_of_ble_eq_true rfl) dX12_falling_16 ⟨Nat.zero_le _, Nat.zero_le _⟩) (fun H locs hw => ?_)
    refine lv_aload_n hx hb dX12_falling_19 rfl (lv_at hl 0 rfl) ?_
    refine lv_iload_n hx hb dX12_falling_20 rfl (lv_at hl 1 rfl) ?_
    refine lv_iload_n hx hb dX12_falling_21 rfl (lv_at hl 2 rfl) ?_
    obtain ⟨r17, k18, hf⟩ := bd_some hf
    refine w_goI hw (w_runV (rest := []) C hw (zX12_plainFalls _ _ r15 a1 a2 r17 k18) (by decide) (EM_0 X _ _) rfl km_X12_415 ki_yX12_plainFalls kv_X12_plainFalls kz_X12 kc_X12_plainFalls rfl ok_yX12_plainFalls ⟨Nat.le_of_ble_eq_true rfl, Nat.le_of_ble_eq_true rfl⟩ rfl rfl rfl rfl hl.1 (Nat.le_of_ble_eq_true rfl) dX12_falling_22 ⟨Nat.zero_le _, Nat.zero_le _⟩) (fun H locs hw => ?_)
    refine lv_iconst (v := 3) hx hb dX12_falling_25 (by decide) ?_
    refine lv_iadd hx hb dX12_falling_26 ?_
    exact w_iret C hw hr (so2 hf).1 (so2 hf).2 dX12_falling_27
theorem dX12_plainWishes_0 : decode cX12_plainWishes 0 = .ok (.aload_n 0, 1) := by decide +kernel
theorem dX12_plainWishes_1 : decode cX12_plainWishes 1 = .ok (.bipush 10, 2) := by decide +kernel
theorem dX12_plainWishes_3 : decode cX12_plainWishes 3 = .ok (.invokevirtual 411, 3) := by decide +kernel
theorem dX12_plainWishes_6 : decode cX12_plainWishes 6 = .ok (.aload_n 0, 1) := by decide +kernel
theorem dX12_plainWishes_7 : decode cX12_plainWishes 7 = .ok (.iload_n 1, 1) := by decide +kernel
theorem dX12_plainWishes_8 : decode cX12_plainWishes 8 = .ok (.iload_n 2, 1) := by decide +kernel
theorem dX12_plainWishes_9 : decode cX12_plainWishes 9 = .ok (.invokevirtual 424, 3) := by decide +kernel
theorem dX12_plainWishes_12 : decode cX12_plainWishes 12 = .ok (.iconst 2, 1) := by decide +kernel
theorem dX12_plainWishes_13 : decode cX12_plainWishes 13 = .ok (.imul, 1) := by decide +kernel
theorem dX12_plainWishes_14 : decode cX12_plainWishes 14 = .ok (.ireturn, 1) := by decide +kernel
theorem ok_yX12_plainWishes : yOk yX12_plainWishes 2 := ⟨by decide +kernel, by decide +kernel, by decide +kernel⟩
def fX12_plainWishes (st : St) (a1 : Int32) (a2 : Int32) : Option (Int32 × St) := (fX12_ran st (10 : Int32)).bind (fun r1 => (fX12_falling r1 a1 a2).bind (fun r3 => some ((r3.1 * (2 : Int32)), r3.2)))
set_option maxHeartbeats 4000000 in
theorem zX12_plainWishes (l : Launch) (X : WX) (st : St) (a1 : Int32) (a2 : Int32) (R : Int32 × St) (hf : fX12_plainWishes st a1 a2 = some R) : CtI l yX12_plainWishes cX12_plainWishes 3 .int ({ frames := 4, cells := 0, slots := 0, locals := 87 }) EM 43 X [.ref (xq X 0), .int a1, .int a2] st R.1 R.2 := by
  refine ct_in (own := RX12) (by decide +kernel) rfl (Nat.le_of_ble_eq_true rfl) (fun p e s m below meth c C hr hw ls hl => ?_)
  obtain ⟨hx, hb, hml, hown, hts⟩ := id C.1
  have hl : lv_has ls 3 [(0, .ref (xq X 0)), (1, .int a1), (2, .int a2)] := hl
  unfold fX12_plainWishes at hf
  refine lv_aload_n hx hb dX12_plainWishes_0 rfl (lv_at hl 0 rfl) ?_
  refine lv_bipush (v := 10) hx hb dX12_plainWishes_1 (by decide) ?_
  obtain ⟨r1, k2, hf⟩ := bd_some hf
  refine w_goV hw (w_runV (rest := []) C hw (zX12_ran _ _ st (10 : Int32) r1 k2) (by decide) (EM_0 X _ _) rfl km_X12_411 ki_yX12_ran kv_X12_ran kz_X12 kc_X12_ran rfl ok_yX12_ran ⟨Nat.le_of_ble_eq_true rfl, Nat.le_of_ble_eq_true rfl⟩ rfl rfl rfl rfl hl.1 (Nat.le_of_ble_eq_true rfl) dX12_plainWishes_3 ⟨Nat.zero_le _, Nat.zero_le _⟩) (fun H locs hw => ?_)
  refine lv_aload_n hx hb dX12_plainWishes_6 rfl (lv_at hl 0 rfl) ?_
  refine lv_iload_n hx hb dX12_plainWishes_7 rfl (lv_at hl 1 rfl) ?_
  refine lv_iload_n hx hb dX12_plainWishes_8 rfl (lv_at hl 2 rfl) ?_
  obtain ⟨r3, k4, hf⟩ := bd_some hf
  refine w_goI hw (w_runV (rest := []) C hw (zX12_falling _ _ r1 a1 a2 r3 k4) (by decide) (EM_0 X _ _) rfl km_X12_424 ki_yX12_falling kv_X12_falling kz_X12 kc_X12_falling rfl ok_yX12_falling ⟨Nat.le_of_ble_eq_true rfl, Nat.le_of_ble_eq_true rfl⟩ rfl rfl rfl rfl hl.1 (Nat.le_of_ble_eq_true rfl) dX12_plainWishes_9 ⟨Nat.zero_le _, Nat.zero_le _⟩) (fun H locs hw => ?_)
  refine lv_iconst (v := 2) hx hb dX12_plainWishes_12 (by decide) ?_
  refine lv_imul hx hb dX12_plainWishes_13 ?_
  exact w_iret C hw hr (so2 hf).1 (so2 hf).2 dX12_plainWishes_14
theorem dX12_hingeWishes_0 : decode cX12_hingeWishes 0 = .ok (.aload_n 0, 1) := by decide +kernel
theorem dX12_hingeWishes_1 : decode cX12_hingeWishes 1 = .ok (.bipush 30, 2) := by decide +kernel
theorem dX12_hingeWishes_3 : decode cX12_hingeWishes 3 = .ok (.invokevirtual 411, 3) := by decide +kernel
theorem dX12_hingeWishes_6 : decode cX12_hingeWishes 6 = .ok (.aload_n 0, 1) := by decide +kernel
theorem dX12_hingeWishes_7 : decode cX12_hingeWishes 7 = .ok (.iload_n 1, 1) := by decide +kernel
theorem dX12_hingeWishes_8 : decode cX12_hingeWishes 8 = .ok (.iload_n 2, 1) := by decide +kernel
theorem dX12_hingeWishes_9 : decode cX12_hingeWishes 9 = .ok (.invokevirtual 427, 3) := by decide +kernel
theorem dX12_hingeWishes_12 : decode cX12_hingeWishes 12 = .ok (.ineg, 1) := by decide +kernel
theorem dX12_hingeWishes_13 : decode cX12_hingeWishes 13 = .ok (.ireturn, 1) := by decide +kernel
theorem ok_yX12_hingeWishes : yOk yX12_hingeWishes 2 := ⟨by decide +kernel, by decide +kernel, by decide +kernel⟩
def fX12_hingeWishes (st : St) (a1 : Int32) (a2 : Int32) : Option (Int32 × St) := (fX12_ran st (30 : Int32)).bind (fun r1 => (fX12_plainWishes r1 a1 a2).bind (fun r3 => some ((-r3.1), r3.2)))
set_option maxHeartbeats 4000000 in
theorem zX12_hingeWishes (l : Launch) (X : WX) (st : St) (a1 : Int32) (a2 : Int32) (R : Int32 × St) (hf : fX12_hingeWishes st a1 a2 = some R) : CtI l yX12_hingeWishes cX12_hingeWishes 3 .int ({ frames := 5, cells := 0, slots := 0, locals := 109 }) EM 43 X [.ref (xq X 0), .int a1, .int a2] st R.1 R.2 := by
  refine ct_in (own := RX12) (by decide +kernel) rfl (Nat.le_of_ble_eq_true rfl) (fun p e s m below meth c C hr hw ls hl => ?_)
  obtain ⟨hx, hb, hml, hown, hts⟩ := id C.1
  have hl : lv_has ls 3 [(0, .ref (xq X 0)), (1, .int a1), (2, .int a2)] := hl
  unfold fX12_hingeWishes at hf
  refine lv_aload_n hx hb dX12_hingeWishes_0 rfl (lv_at hl 0 rfl) ?_
  refine lv_bipush (v := 30) hx hb dX12_hingeWishes_1 (by decide) ?_
  obtain ⟨r1, k2, hf⟩ := bd_some hf
  refine w_goV hw (w_runV (rest := []) C hw (zX12_ran _ _ st (30 : Int32) r1 k2) (by decide) (EM_0 X _ _) rfl km_X12_411 ki_yX12_ran kv_X12_ran kz_X12 kc_X12_ran rfl ok_yX12_ran ⟨Nat.le_of_ble_eq_true rfl, Nat.le_of_ble_eq_true rfl⟩ rfl rfl rfl rfl hl.1 (Nat.le_of_ble_eq_true rfl) dX12_hingeWishes_3 ⟨Nat.zero_le _, Nat.zero_le _⟩) (fun H locs hw => ?_)
  refine lv_aload_n hx hb dX12_hingeWishes_6 rfl (lv_at hl 0 rfl) ?_
  refine lv_iload_n hx hb dX12_hingeWishes_7 rfl (lv_at hl 1 rfl) ?_
  refine lv_iload_n hx hb dX12_hingeWishes_8 rfl (lv_at hl 2 rfl) ?_
  obtain ⟨r3, k4, hf⟩ := bd_some hf
  refine w_goI hw (w_runV (rest := []) C hw (zX12_plainWishes _ _ r1 a1 a2 r3 k4) (by decide) (EM_0 X _ _) rfl km_X12_427 ki_yX12_plainWishes kv_X12_plainWishes kz_X12 kc_X12_plainWishes rfl ok_yX12_plainWishes ⟨Nat.le_of_ble_eq_true rfl, Nat.le_of_ble_eq_true rfl⟩ rfl rfl rfl rfl hl.1 (Nat.le_of_ble_eq_true rfl) dX12_hingeWishes_9 ⟨Nat.zero_le _, Nat.zero_le _⟩) (fun H locs hw => ?_)
  refine lv_ineg hx hb dX12_hingeWishes_12 ?_
  exact w_iret C hw hr (so2 hf).1 (so2 hf).2 dX12_hingeWishes_13
theorem dX12_plainOwes_0 : decode cX12_plainOwes 0 = .ok (.aload_n 0, 1) := by decide +kernel
theorem dX12_plainOwes_1 : decode cX12_plainOwes 1 = .ok (.bipush 11, 2) := by decide +kernel
theorem dX12_plainOwes_3 : decode cX12_plainOwes 3 = .ok (.invokevirtual 411, 3) := by decide +kernel
theorem dX12_plainOwes_6 : decode cX12_plainOwes 6 = .ok (.iload_n 2, 1) := by decide +kernel
theorem dX12_plainOwes_7 : decode cX12_plainOwes 7 = .ok (.iload_n 1, 1) := by decide +kernel
theorem dX12_plainOwes_8 : decode cX12_plainOwes 8 = .ok (.ixor, 1) := by decide +kernel
theorem dX12_plainOwes_9 : decode cX12_plainOwes 9 = .ok (.ireturn, 1) := by decide +kernel
theorem ok_yX12_plainOwes : yOk yX12_plainOwes 2 := ⟨by decide +kernel, by decide +kernel, by decide +kernel⟩
def fX12_plainOwes (st : St) (a1 : Int32) (a2 : Int32) : Option (Int32 × St) := (fX12_ran st (11 : Int32)).bind (fun r1 => some ((a2 ^^^ a1), r1))
set_option maxHeartbeats 4000000 in
theorem zX12_plainOwes (l : Launch) (X : WX) (st : St) (a1 : Int32) (a2 : Int32) (R : Int32 × St) (hf : fX12_plainOwes st a1 a2 = some R) : CtI l yX12_plainOwes cX12_plainOwes 3 .int ({ frames := 1, cells := 0, slots := 0, locals := 21 }) EM 43 X [.ref (xq X 0), .int a1, .int a2] st R.1 R.2 := by
  refine ct_in (own := RX12) (by decide +kernel) rfl (Nat.le_of_ble_eq_true rfl) (fun p e s m below meth c C hr hw ls hl => ?_)
  obtain ⟨hx, hb, hml, hown, hts⟩ := id C.1
  have hl : lv_has ls 3 [(0, .ref (xq X 0)), (1, .int a1), (2, .int a2)] := hl
  unfold fX12_plainOwes at hf
  refine lv_aload_n hx hb dX12_plainOwes_0 rfl (lv_at hl 0 rfl) ?_
  refine lv_bipush (v := 11) hx hb dX12_plainOwes_1 (by decide) ?_
  obtain ⟨r1, k2, hf⟩ := bd_some hf
  refine w_goV hw (w_runV (rest := []) C hw (zX12_ran _ _ st (11 : Int32) r1 k2) (by decide) (EM_0 X _ _) rfl km_X12_411 ki_yX12_ran kv_X12_ran kz_X12 kc_X12_ran rfl ok_yX12_ran ⟨Nat.le_of_ble_eq_true rfl, Nat.le_of_ble_eq_true rfl⟩ rfl rfl rfl rfl hl.1 (Nat.le_of_ble_eq_true rfl) dX12_plainOwes_3 ⟨Nat.zero_le _, Nat.zero_le _⟩) (fun H locs hw => ?_)
  refine lv_iload_n hx hb dX12_plainOwes_6 rfl (lv_at hl 2 rfl) ?_
  refine lv_iload_n hx hb dX12_plainOwes_7 rfl (lv_at hl 1 rfl) ?_
  refine lv_ixor hx hb dX12_plainOwes_8 ?_
  exact w_iret C hw hr (so2 hf).1 (so2 hf).2 dX12_plainOwes_9
theorem dX12_spoonOwes_0 : decode cX12_spoonOwes 0 = .ok (.aload_n 0, 1) := by decide +kernel
theorem dX12_spoonOwes_1 : decode cX12_spoonOwes 1 = .ok (.bipush 40, 2) := by decide +kernel
theorem dX12_spoonOwes_3 : decode cX12_spoonOwes 3 = .ok (.invokevirtual 411, 3) := by decide +kernel
theorem dX12_spoonOwes_6 : decode cX12_spoonOwes 6 = .ok (.aload_n 0, 1) := by decide +kernel
theorem dX12_spoonOwes_7 : decode cX12_spoonOwes 7 = .ok (.iload_n 1, 1) := by decide +kernel
theorem dX12_spoonOwes_8 : decode cX12_spoonOwes 8 = .ok (.iload_n 2, 1) := by decide +kernel
theorem dX12_spoonOwes_9 : decode cX12_spoonOwes 9 = .ok (.invokevirtual 436, 3) := by decide +kernel
theorem dX12_spoonOwes_12 : decode cX12_spoonOwes 12 = .ok (.iconst 3, 1) := by decide +kernel
theorem dX12_spoonOwes_13 : decode cX12_spoonOwes 13 = .ok (.imul, 1) := by decide +kernel
theorem dX12_spoonOwes_14 : decode cX12_spoonOwes 14 = .ok (.ireturn, 1) := by decide +kernel
theorem ok_yX12_spoonOwes : yOk yX12_spoonOwes 2 := ⟨by decide +kernel, by decide +kernel, by decide +kernel⟩
def fX12_spoonOwes (st : St) (a1 : Int32) (a2 : Int32) : Option (Int32 × St) := (fX12_ran st (40 : Int32)).bind (fun r1 => (fX12_plainOwes r1 a1 a2).bind (fun r3 => some ((r3.1 * (3 : Int32)), r3.2)))
set_option maxHeartbeats 4000000 in
theorem zX12_spoonOwes (l : Launch) (X : WX) (st : St) (a1 : Int32) (a2 : Int32) (R : Int32 × St) (hf : fX12_spoonOwes st a1 a2 = some R) : CtI l yX12_spoonOwes cX12_spoonOwes 3 .int ({ frames := 2, cells := 0, slots := 0, locals := 43 }) EM 43 X [.ref (xq X 0), .int a1, .int a2] st R.1 R.2 := by
  refine ct_in (own := RX12) (by decide +kernel) rfl (Nat.le_of_ble_eq_true rfl) (fun p e s m below meth c C hr hw ls hl => ?_)
  obtain ⟨hx, hb, hml, hown, hts⟩ := id C.1
  have hl : lv_has ls 3 [(0, .ref (xq X 0)), (1, .int a1), (2, .int a2)] := hl
  unfold fX12_spoonOwes at hf
  refine lv_aload_n hx hb dX12_spoonOwes_0 rfl (lv_at hl 0 rfl) ?_
  refine lv_bipush (v := 40) hx hb dX12_spoonOwes_1 (by decide) ?_
  obtain ⟨r1, k2, hf⟩ := bd_some hf
  refine w_goV hw (w_runV (rest := []) C hw (zX12_ran _ _ st (40 : Int32) r1 k2) (by decide) (EM_0 X _ _) rfl km_X12_411 ki_yX12_ran kv_X12_ran kz_X12 kc_X12_ran rfl ok_yX12_ran ⟨Nat.le_of_ble_eq_true rfl, Nat.le_of_ble_eq_true rfl⟩ rfl rfl rfl rfl hl.1 (Nat.le_of_ble_eq_true rfl) dX12_spoonOwes_3 ⟨Nat.zero_le _, Nat.zero_le _⟩) (fun H locs hw => ?_)
  refine lv_aload_n hx hb dX12_spoonOwes_6 rfl (lv_at hl 0 rfl) ?_
  refine lv_iload_n hx hb dX12_spoonOwes_7 rfl (lv_at hl 1 rfl) ?_
  refine lv_iload_n hx hb dX12_spoonOwes_8 rfl (lv_at hl 2 rfl) ?_
  obtain ⟨r3, k4, hf⟩ := bd_some hf
  refine w_goI hw (w_runV (rest := []) C hw (zX12_plainOwes _ _ r1 a1 a2 r3 k4) (by decide) (EM_0 X _ _) rfl km_X12_436 ki_yX12_plainOwes kv_X12_plainOwes kz_X12 kc_X12_plainOwes rfl ok_yX12_plainOwes ⟨Nat.le_of_ble_eq_true rfl, Nat.le_of_ble_eq_true rfl⟩ rfl rfl rfl rfl hl.1 (Nat.le_of_ble_eq_true rfl) dX12_spoonOwes_9 ⟨Nat.zero_le _, Nat.zero_le _⟩) (fun H locs hw => ?_)
  refine lv_iconst (v := 3) hx hb dX12_spoonOwes_12 (by decide) ?_
  refine lv_imul hx hb dX12_spoonOwes_13 ?_
  exact w_iret C hw hr (so2 hf).1 (so2 hf).2 dX12_spoonOwes_14
theorem dX12_owing_0 : decode cX12_owing 0 = .ok (.aload_n 0, 1) := by decide +kernel
theorem dX12_owing_1 : decode cX12_owing 1 = .ok (.getfield 121, 3) := by decide +kernel
theorem dX12_owing_4 : decode cX12_owing 4 = .ok (.iload_n 1, 1) := by decide +kernel
theorem dX12_owing_5 : decode cX12_owing 5 = .ok (.iaload, 1) := by decide +kernel
theorem dX12_owing_6 : decode cX12_owing 6 = .ok (.iconst 5, 1) := by decide +kernel
theorem dX12_owing_7 : decode cX12_owing 7 = .ok (.if_icmp .ne 25, 3) := by decide +kernel
theorem dX12_owing_10 : decode cX12_owing 10 = .ok (.aload_n 0, 1) := by decide +kernel
theorem dX12_owing_11 : decode cX12_owing 11 = .ok (.bipush 60, 2) := by decide +kernel
theorem dX12_owing_13 : decode cX12_owing 13 = .ok (.invokevirtual 411, 3) := by decide +kernel
theorem dX12_owing_16 : decode cX12_owing 16 = .ok (.aload_n 0, 1) := by decide +kernel
theorem dX12_owing_17 : decode cX12_owing 17 = .ok (.iload_n 1, 1) := by decide +kernel
theorem dX12_owing_18 : decode cX12_owing 18 = .ok (.iload_n 2, 1) := by decide +kernel
theorem dX12_owing_19 : decode cX12_owing 19 = .ok (.invokevirtual 439, 3) := by decide +kernel
theorem dX12_owing_22 : decode cX12_owing 22 = .ok (.istore_n 3, 1) := by decide +kernel
theorem dX12_owing_23 : decode cX12_owing 23 = .ok (.iload_n 3, 1) := by decide +kernel
theorem dX12_owing_24 : decode cX12_owing 24 = .ok (.aload_n 0, 1) := by decide +kernel
theorem dX12_owing_25 : decode cX12_owing 25 = .ok (.iload_n 1, 1) := by decide +kernel
theorem dX12_owing_26 : decode cX12_owing 26 = .ok (.iconst 2, 1) := by decide +kernel
theorem dX12_owing_27 : decode cX12_owing 27 = .ok (.invokevirtual 424, 3) := by decide +kernel
theorem dX12_owing_30 : decode cX12_owing 30 = .ok (.isub, 1) := by decide +kernel
theorem dX12_owing_31 : decode cX12_owing 31 = .ok (.ireturn, 1) := by decide +kernel
theorem dX12_owing_32 : decode cX12_owing 32 = .ok (.aload_n 0, 1) := by decide +kernel
theorem dX12_owing_33 : decode cX12_owing 33 = .ok (.getfield 121, 3) := by decide +kernel
theorem dX12_owing_36 : decode cX12_owing 36 = .ok (.iload_n 1, 1) := by decide +kernel
theorem dX12_owing_37 : decode cX12_owing 37 = .ok (.iaload, 1) := by decide +kernel
theorem dX12_owing_38 : decode cX12_owing 38 = .ok (.iconst 3, 1) := by decide +kernel
theorem dX12_owing_39 : decode cX12_owing 39 = .ok (.if_icmp .ne 12, 3) := by decide +kernel
theorem dX12_owing_42 : decode cX12_owing 42 = .ok (.aload_n 0, 1) := by decide +kernel
theorem dX12_owing_43 : decode cX12_owing 43 = .ok (.iload_n 1, 1) := by decide +kernel
theorem dX12_owing_44 : decode cX12_owing 44 = .ok (.iload_n 2, 1) := by decide +kernel
theorem dX12_owing_45 : decode cX12_owing 45 = .ok (.invokevirtual 439, 3) := by decide +kernel
theorem dX12_owing_48 : decode cX12_owing 48 = .ok (.goto 9, 3) := by decide +kernel
theorem dX12_owing_51 : decode cX12_owing 51 = .ok (.aload_n 0, 1) := by decide +kernel
theorem dX12_owing_52 : decode cX12_owing 52 = .ok (.iload_n 1, 1) := by decide +kernel
theorem dX12_owing_53 : decode cX12_owing 53 = .ok (.iload_n 2, 1) := by decide +kernel
theorem dX12_owing_54 : decode cX12_owing 54 = .ok (.invokevirtual 436, 3) := by decide +kernel
theorem dX12_owing_57 : decode cX12_owing 57 = .ok (.ireturn, 1) := by decide +kernel
theorem ok_yX12_owing : yOk yX12_owing 2 := ⟨by decide +kernel, by decide +kernel, by decide +kernel⟩
def fX12_owing (st : St) (a1 : Int32) (a2 : Int32) : Option (Int32 × St) := gd (inB a1 50) (if gI st 37 a1.toNatClampNeg = (5 : Int32) then ((fX12_ran st (60 : Int32)).bind (fun r9 => (fX12_spoonOwes r9 a1 a2).bind (fun r11 => (fX12_falling r11.2 a1 (2 : Int32)).bind (fun r13 => some ((r11.1 - r13.1), r13.2))))) else (gd (inB a1 50) (if gI st 37 a1.toNatClampNeg = (3 : Int32) then ((fX12_spoonOwes st a1 a2).bind (fun r7 => some (r7.1, r7.2))) else ((fX12_plainOwes st a1 a2).bind (fun r5 => some (r5.1, r5.2))))))
set_option maxHeartbeats 4000000 in
theorem zX12_owing (l : Launch) (X : WX) (st : St) (a1 : Int32) (a2 : Int32) (R : Int32 × St) (hf : fX12_owing st a1 a2 = some R) : CtI l yX12_owing cX12_owing 4 .int ({ frames := 4, cells := 0, slots := 0, locals := 87 }) EM 43 X [.ref (xq X 0), .int a1, .int a2] st R.1 R.2 := by
  refine ct_in (own := RX12) (by decide +kernel) rfl (Nat.le_of_ble_eq_true rfl) (fun p e s m below meth c C hr hw ls hl => ?_)
  obtain ⟨hx, hb, hml, hown, hts⟩ := id C.1
  have hl : lv_has ls 4 [(0, .ref (xq X 0)), (1, .int a1), (2, .int a2)] := hl
  unfold fX12_owing at hf
  refine lv_aload_n hx hb dX12_owing_0 rfl (lv_at hl 0 rfl) ?_
  refine w_get (T := TX12) C hw (by decide) 51 kf_X12_121 (EM_0 X _ _) rfl inA12 (by decide) rfl dX12_owing_1 ?_
  refine lv_iload_n hx hb dX12_owing_4 rfl (lv_at hl 1 rfl) ?_
  obtain ⟨h1, hf⟩ := gd_some hf
  refine w_iald C hw (by decide) (EM_37 X _ _) h1 rfl dX12_owing_5 ?_
  refine lv_iconst (v := 5) hx hb dX12_owing_6 (by decide) ?_
  refine lv_icmp_ne (tgt := 32) hx hb dX12_owing_7 (by decide) (fun c2 => ?_) (fun c2 => ?_)
  · replace hf := ite_f hf c2
    refine lv_aload_n hx hb dX12_owing_32 rfl (lv_at hl 0 rfl) ?_
    refine w_get (T := TX12) C hw (by decide) 51 kf_X12_121 (EM_0 X _ _) rfl inA12 (by decide) rfl dX12_owing_33 ?_
    refine lv_iload_n hx hb dX12_owing_36 rfl (lv_at hl 1 rfl) ?_
    obtain ⟨h3, hf⟩ := gd_some hf
    refine w_iald C hw (by decide) (EM_37 X _ _) h3 rfl dX12_owing_37 ?_
    refine lv_iconst (v := 3) hx hb dX12_owing_38 (by decide) ?_
    refine lv_icmp_ne (tgt := 51) hx hb dX12_owing_39 (by decide) (fun c4 => ?_) (fun c4 => ?_)
    · replace hf := ite_f hf c4
      refine lv_aload_n hx hb dX12_owing_51 rfl (lv_at hl 0 rfl) ?_
      refine lv_iload_n hx hb dX12_owing_52 rfl (lv_at hl 1 rfl) ?_
      refine lv_iload_n hx hb dX12_owing_53 rfl (lv_at hl 2 rfl) ?_
      obtain ⟨r5, k6, hf⟩ := bd_some hf
      refine w_goI hw (w_runV (rest := []) C hw (zX12_plainOwes _ _ st a1 a2 r5 k6) (by decide) (EM_0 X _ _) rfl km_X12_436 ki_yX12_plainOwes kv_X12_plainOwes kz_X12 kc_X12_plainOwes rfl ok_yX12_plainOwes ⟨Nat.le_of_ble_eq_true rfl, Nat.le_of_ble_eq_true rfl⟩ rfl rfl rfl rfl hl.1 (Nat.le_of_ble_eq_true rfl) dX12_owing_54 ⟨Nat.zero_le _, Nat.zero_le _⟩) (fun H locs hw => ?_)
      exact w_iret C hw hr (so2 hf).1 (so2 hf).2 dX12_owing_57
    · replace hf := ite_t hf c4
      refine lv_aload_n hx hb dX12_owing_42 rfl (lv_at hl 0 rfl) ?_
      refine lv_iload_n hx hb dX12_owing_43 rfl (lv_at hl 1 rfl) ?_
      refine lv_iload_n hx hb dX12_owing_44 rfl (lv_at hl 2 rfl) ?_
      obtain ⟨r7, k8, hf⟩ := bd_some hf
      refine w_goI hw (w_runV (rest := []) C hw (zX12_spoonOwes _ _ st a1 a2 r7 k8) (by decide) (EM_0 X _ _) rfl km_X12_439 ki_yX12_spoonOwes kv_X12_spoonOwes kz_X12 kc_X12_spoonOwes rfl ok_yX12_spoonOwes ⟨Nat.le_of_ble_eq_true rfl, Nat.le_of_ble_eq_true rfl⟩ rfl rfl rfl rfl hl.1 (Nat.le_of_ble_eq_true rfl) dX12_owing_45 ⟨Nat.zero_le _, Nat.zero_le _⟩) (fun H locs hw => ?_)
      refine lv_goto (tgt := 57) hx hb dX12_owing_48 (by decide) ?_
      exact w_iret C hw hr (so2 hf).1 (so2 hf).2 dX12_owing_57
  · replace hf := ite_t hf c2
    refine lv_aload_n hx hb dX12_owing_10 rfl (lv_at hl 0 rfl) ?_
    refine lv_bipush (v := 60) hx hb dX12_owing_11 (by decide) ?_
    obtain ⟨r9, k10, hf⟩ := bd_some hf
    refine w_goV hw (w_runV (rest := []) C hw (zX12_ran _ _ st (60 : Int32) r9 k10) (by decide) (EM_0 X _ _) rfl km_X12_411 ki_yX12_ran kv_X12_ran kz_X12 kc_X12_ran rfl ok_yX12_ran ⟨Nat.le_of_ble_eq_true rfl, Nat.le_of_ble_eq_true rfl⟩ rfl rfl rfl rfl hl.1 (Nat.le_of_ble_eq_true rfl) dX12_owing_13 ⟨Nat.zero_le _, Nat.zero_le _⟩) (fun H locs hw => ?_)
    refine lv_aload_n hx hb dX12_owing_16 rfl (lv_at hl 0 rfl) ?_
    refine lv_iload_n hx hb dX12_owing_17 rfl (lv_at hl 1 rfl) ?_
    refine lv_iload_n hx hb dX12_owing_18 rfl (lv_at hl 2 rfl) ?_
    obtain ⟨r11, k12, hf⟩ := bd_some hf
    refine w_goI hw (w_runV (rest := []) C hw (zX12_spoonOwes _ _ r9 a1 a2 r11 k12) (by decide) (EM_0 X _ _) rfl km_X12_439 ki_yX12_spoonOwes kv_X12_spoonOwes kz_X12 kc_X12_spoonOwes rfl ok_yX12_spoonOwes ⟨Nat.le_of_ble_eq_true rfl, Nat.le_of_ble_eq_true rfl⟩ rfl rfl rfl rfl hl.1 (Nat.le_of_ble_eq_true rfl) dX12_owing_19 ⟨Nat.zero_le _, Nat.zero_le _⟩) (fun H locs hw => ?_)
    refine lv_istore_n (lv' := [(3, .int r11.1), (0, .ref (xq X 0)), (1, .int a1), (2, .int a2)]) hx hb dX12_owing_22 rfl hl (by decide) rfl (fun ls hl => ?_)
    refine lv_iload_n hx hb dX12_owing_23 rfl (lv_at hl 0 rfl) ?_
    refine lv_aload_n hx hb dX12_owing_24 rfl (lv_at hl 1 rfl) ?_
    refine lv_iload_n hx hb dX12_owing_25 rfl (lv_at hl 2 rfl) ?_
    refine lv_iconst (v := 2) hx hb dX12_owing_26 (by decide) ?_
    obtain ⟨r13, k14, hf⟩ := bd_some hf
    refine w_goI hw (w_runV (rest := [.int r11.1]) C hw (zX12_falling _ _ r11.2 a1 (2 : Int32) r13 k14) (by decide) (EM_0 X _ _) rfl km_X12_424 ki_yX12_falling kv_X12_falling kz_X12 kc_X12_falling rfl ok_yX12_falling ⟨Nat.le_of_ble_eq_true rfl, Nat.le_of_ble_eq_true rfl⟩ rfl rfl rfl rfl hl.1 (Nat.le_of_ble_eq_true rfl) dX12_owing_27 ⟨Nat.zero_le _, Nat.zero_le _⟩) (fun H locs hw => ?_)
    refine lv_isub hx hb dX12_owing_30 ?_
    exact w_iret C hw hr (so2 hf).1 (so2 hf).2 dX12_owing_31
theorem dX12_wishing_0 : decode cX12_wishing 0 = .ok (.aload_n 0, 1) := by decide +kernel
theorem dX12_wishing_1 : decode cX12_wishing 1 = .ok (.getfield 121, 3) := by decide +kernel
theorem dX12_wishing_4 : decode cX12_wishing 4 = .ok (.iload_n 1, 1) := by decide +kernel
theorem dX12_wishing_5 : decode cX12_wishing 5 = .ok (.iaload, 1) := by decide +kernel
theorem dX12_wishing_6 : decode cX12_wishing 6 = .ok (.iconst 3, 1) := by decide +kernel
theorem dX12_wishing_7 : decode cX12_wishing 7 = .ok (.invokestatic 418, 3) := by decide +kernel
theorem dX12_wishing_10 : decode cX12_wishing 10 = .ok (.ifCond .eq 18, 3) := by decide +kernel
theorem dX12_wishing_13 : decode cX12_wishing 13 = .ok (.aload_n 0, 1) := by decide +kernel
theorem dX12_wishing_14 : decode cX12_wishing 14 = .ok (.bipush 41, 2) := by decide +kernel
theorem dX12_wishing_16 : decode cX12_wishing 16 = .ok (.invokevirtual 411, 3) := by decide +kernel
theorem dX12_wishing_19 : decode cX12_wishing 19 = .ok (.aload_n 0, 1) := by decide +kernel
theorem dX12_wishing_20 : decode cX12_wishing 20 = .ok (.iload_n 1, 1) := by decide +kernel
theorem dX12_wishing_21 : decode cX12_wishing 21 = .ok (.iload_n 2, 1) := by decide +kernel
theorem dX12_wishing_22 : decode cX12_wishing 22 = .ok (.iconst 1, 1) := by decide +kernel
theorem dX12_wishing_23 : decode cX12_wishing 23 = .ok (.iadd, 1) := by decide +kernel
theorem dX12_wishing_24 : decode cX12_wishing 24 = .ok (.invokevirtual 430, 3) := by decide +kernel
theorem dX12_wishing_27 : decode cX12_wishing 27 = .ok (.ireturn, 1) := by decide +kernel
theorem dX12_wishing_28 : decode cX12_wishing 28 = .ok (.aload_n 0, 1) := by decide +kernel
theorem dX12_wishing_29 : decode cX12_wishing 29 = .ok (.getfield 121, 3) := by decide +kernel
theorem dX12_wishing_32 : decode cX12_wishing 32 = .ok (.iload_n 1, 1) := by decide +kernel
theorem dX12_wishing_33 : decode cX12_wishing 33 = .ok (.iaload, 1) := by decide +kernel
theorem dX12_wishing_34 : decode cX12_wishing 34 = .ok (.bipush 7, 2) := by decide +kernel
theorem dX12_wishing_36 : decode cX12_wishing 36 = .ok (.if_icmp .ne 25, 3) := by decide +kernel
theorem dX12_wishing_39 : decode cX12_wishing 39 = .ok (.aload_n 0, 1) := by decide +kernel
theorem dX12_wishing_40 : decode cX12_wishing 40 = .ok (.bipush 80, 2) := by decide +kernel
theorem dX12_wishing_42 : decode cX12_wishing 42 = .ok (.invokevirtual 411, 3) := by decide +kernel
theorem dX12_wishing_45 : decode cX12_wishing 45 = .ok (.aload_n 0, 1) := by decide +kernel
theorem dX12_wishing_46 : decode cX12_wishing 46 = .ok (.iload_n 1, 1) := by decide +kernel
theorem dX12_wishing_47 : decode cX12_wishing 47 = .ok (.iload_n 2, 1) := by decide +kernel
theorem dX12_wishing_48 : decode cX12_wishing 48 = .ok (.invokevirtual 427, 3) := by decide +kernel
theorem dX12_wishing_51 : decode cX12_wishing 51 = .ok (.istore_n 3, 1) := by decide +kernel
theorem dX12_wishing_52 : decode cX12_wishing 52 = .ok (.iload_n 3, 1) := by decide +kernel
theorem dX12_wishing_53 : decode cX12_wishing 53 = .ok (.aload_n 0, 1) := by decide +kernel
theorem dX12_wishing_54 : decode cX12_wishing 54 = .ok (.iload_n 1, 1) := by decide +kernel
theorem dX12_wishing_55 : decode cX12_wishing 55 = .ok (.iconst 2, 1) := by decide +kernel
theorem dX12_wishing_56 : decode cX12_wishing 56 = .ok (.invokevirtual 433, 3) := by decide +kernel
theorem dX12_wishing_59 : decode cX12_wishing 59 = .ok (.iadd, 1) := by decide +kernel
theorem dX12_wishing_60 : decode cX12_wishing 60 = .ok (.ireturn, 1) := by decide +kernel
theorem dX12_wishing_61 : decode cX12_wishing 61 = .ok (.aload_n 0, 1) := by decide +kernel
theorem dX12_wishing_62 : decode cX12_wishing 62 = .ok (.getfield 121, 3) := by decide +kernel
theorem dX12_wishing_65 : decode cX12_wishing 65 = .ok (.iload_n 1, 1) := by decide +kernel
theorem dX12_wishing_66 : decode cX12_wishing 66 = .ok (.iaload, 1) := by decide +kernel
theorem dX12_wishing_67 : decode cX12_wishing 67 = .ok (.iconst 2, 1) := by decide +kernel
theorem dX12_wishing_68 : decode cX12_wishing 68 = .ok (.if_icmp .ne 12, 3) := by decide +kernel
theorem dX12_wishing_71 : decode cX12_wishing 71 = .ok (.aload_n 0, 1) := by decide +kernel
theorem dX12_wishing_72 : decode cX12_wishing 72 = .ok (.iload_n 1, 1) := by decide +kernel
theorem dX12_wishing_73 : decode cX12_wishing 73 = .ok (.iload_n 2, 1) := by decide +kernel
theorem dX12_wishing_74 : decode cX12_wishing 74 = .ok (.invokevirtual 430, 3) := by decide +kernel
theorem dX12_wishing_77 : decode cX12_wishing 77 = .ok (.goto 9, 3) := by decide +kernel
theorem dX12_wishing_80 : decode cX12_wishing 80 = .ok (.aload_n 0, 1) := by decide +kernel
theorem dX12_wishing_81 : decode cX12_wishing 81 = .ok (.iload_n 1, 1) := by decide +kernel
theorem dX12_wishing_82 : decode cX12_wishing 82 = .ok (.iload_n 2, 1) := by decide +kernel
theorem dX12_wishing_83 : decode cX12_wishing 83 = .ok (.invokevirtual 427, 3) := by decide +kernel
theorem dX12_wishing_86 : decode cX12_wishing 86 = .ok (.ireturn, 1) := by decide +kernel
theorem ok_yX12_wishing : yOk yX12_wishing 2 := ⟨by decide +kernel, by decide +kernel, by decide +kernel⟩
def fX12_wishing (st : St) (a1 : Int32) (a2 : Int32) : Option (Int32 × St) := gd (inB a1 50) (if bI (fX12_isUnder (gI st 37 a1.toNatClampNeg) (3 : Int32)) = 0 then (gd (inB a1 50) (if gI st 37 a1.toNatClampNeg = (7 : Int32) then ((fX12_ran st (80 : Int32)).bind (fun r11 => (fX12_plainWishes r11 a1 a2).bind (fun r13 => (fX12_owing r13.2 a1 (2 : Int32)).bind (fun r15 => some ((r13.1 + r15.1), r15.2))))) else (gd (inB a1 50) (if gI st 37 a1.toNatClampNeg = (2 : Int32) then ((fX12_hingeWishes st a1 a2).bind (fun r9 => some (r9.1, r9.2))) else ((fX12_plainWishes st a1 a2).bind (fun r7 => some (r7.1, r7.2))))))) else ((fX12_ran st (41 : Int32)).bind (fun r17 => (fX12_hingeWishes r17 a1 (a2 + (1 : Int32))).bind (fun r19 => some (r19.1, r19.2)))))
set_option maxHeartbeats 4000000 in
theorem zX12_wishing (l : Launch) (X : WX) (st : St) (a1 : Int32) (a2 : Int32) (R : Int32 × St) (hf : fX12_wishing st a1 a2 = some R) : CtI l yX12_wishing cX12_wishing 4 .int ({ frames := 6, cells := 0, slots := 0, locals := 131 }) EM 43 X [.ref (xq X 0), .int a1, .int a2] st R.1 R.2 := by
  refine ct_in (own := RX12) (by decide +kernel) rfl (Nat.le_of_ble_eq_true rfl) (fun p e s m below meth c C hr hw ls hl => ?_)
  obtain ⟨hx, hb, hml, hown, hts⟩ := id C.1
  have hl : lv_has ls 4 [(0, .ref (xq X 0)), (1, .int a1), (2, .int a2)] := hl
  unfold fX12_wishing at hf
  refine lv_aload_n hx hb dX12_wishing_0 rfl (lv_at hl 0 rfl) ?_
  refine w_get (T := TX12) C hw (by decide) 51 kf_X12_121 (EM_0 X _ _) rfl inA12 (by decide) rfl dX12_wishing_1 ?_
  refine lv_iload_n hx hb dX12_wishing_4 rfl (lv_at hl 1 rfl) ?_
  obtain ⟨h1, hf⟩ := gd_some hf
  refine w_iald C hw (by decide) (EM_37 X _ _) h1 rfl dX12_wishing_5 ?_
  refine lv_iconst (v := 3) hx hb dX12_wishing_6 (by decide) ?_
  refine w_goI hw (w_runS (rest := []) C hw (zX12_isUnder _ _ st (gI st 37 a1.toNatClampNeg) (3 : Int32)) km_X12_418 kt_yX12_isUnder kz_X12 kc_X12_isUnder ok_yX12_isUnder ⟨Nat.le_of_ble_eq_true rfl, Nat.le_of_ble_eq_true rfl⟩ rfl rfl rfl rfl hl.1 (Nat.le_of_ble_eq_true rfl) dX12_wishing_7 ⟨Nat.zero_le _, Nat.zero_le _⟩) (fun H locs hw => ?_)
  refine lv_if_eq (tgt := 28) hx hb dX12_wishing_10 (by decide) (fun c2 => ?_) (fun c2 => ?_)
  · replace hf := ite_t hf c2
    refine lv_aload_n hx hb dX12_wishing_28 rfl (lv_at hl 0 rfl) ?_
    refine w_get (T := TX12) C hw (by decide) 51 kf_X12_121 (EM_0 X _ _) rfl inA12 (by decide) rfl dX12_wishing_29 ?_
    refine lv_iload_n hx hb dX12_wishing_32 rfl (lv_at hl 1 rfl) ?_
    obtain ⟨h3, hf⟩ := gd_some hf
    refine w_iald C hw (by decide) (EM_37 X _ _) h3 rfl dX12_wishing_33 ?_
    refine lv_bipush (v := 7) hx hb dX12_wishing_34 (by decide) ?_
    refine lv_icmp_ne (tgt := 61) hx hb dX12_wishing_36 (by decide) (fun c4 => ?_) (fun c4 => ?_)
    · replace hf := ite_f hf c4
      refine lv_aload_n hx hb dX12_wishing_61 rfl (lv_at hl 0 rfl) ?_
      refine w_get (T := TX12) C hw (by decide) 51 kf_X12_121 (EM_0 X _ _) rfl inA12 (by decide) rfl dX12_wishing_62 ?_
      refine lv_iload_n hx hb dX12_wishing_65 rfl (lv_at hl 1 rfl) ?_
      obtain ⟨h5, hf⟩ := gd_some hf
      refine w_iald C hw (by decide) (EM_37 X _ _) h5 rfl dX12_wishing_66 ?_
      refine lv_iconst (v := 2) hx hb dX12_wishing_67 (by decide) ?_
      refine lv_icmp_ne (tgt := 80) hx hb dX12_wishing_68 (by decide) (fun c6 => ?_) (fun c6 => ?_)
      · replace hf := ite_f hf c6
        refine lv_aload_n hx hb dX12_wishing_80 rfl (lv_at hl 0 rfl) ?_
        refine lv_iload_n hx hb dX12_wishing_81 rfl (lv_at hl 1 rfl) ?_
        refine lv_iload_n hx hb dX12_wishing_82 rfl (lv_at hl 2 rfl) ?_
        obtain ⟨r7, k8, hf⟩ := bd_some hf
        refine w_goI hw (w_runV (rest := []) C hw (zX12_plainWishes _ _ st a1 a2 r7 k8) (by decide) (EM_0 X _ _) rfl km_X12_427 ki_yX12_plainWishes kv_X12_plainWishes kz_X12 kc_X12_plainWishes rfl ok_yX12_plainWishes ⟨Nat.le_of_ble_eq_true rfl, Nat.le_of_ble_eq_true rfl⟩ rfl rfl rfl rfl hl.1 (Nat.le_of_ble_eq_true rfl) dX12_wishing_83 ⟨Nat.zero_le _, Nat.zero_le _⟩) (fun H locs hw => ?_)
        exact w_iret C hw hr (so2 hf).1 (so2 hf).2 dX12_wishing_86
      · replace hf := ite_t hf c6
        refine lv_aload_n hx hb dX12_wishing_71 rfl (lv_at hl 0 rfl) ?_
        refine lv_iload_n hx hb dX12_wishing_72 rfl (lv_at hl 1 rfl) ?_
        refine lv_iload_n hx hb dX12_wishing_73 rfl (lv_at hl 2 rfl) ?_
        obtain ⟨r9, k10, hf⟩ := bd_some hf
        refine w_goI hw (w_runV (rest := []) C hw (zX12_hingeWishes _ _ st a1 a2 r9 k10) (by decide) (EM_0 X _ _) rfl km_X12_430 ki_yX12_hingeWishes kv_X12_hingeWishes kz_X12 kc_X12_hingeWishes rfl ok_yX12_hingeWishes ⟨Nat.le_of_ble_eq_true rfl, Nat.le_of_ble_eq_true rfl⟩ rfl rfl rfl rfl hl.1 (Nat.le_of_ble_eq_true rfl) dX12_wishing_74 ⟨Nat.zero_le _, Nat.zero_le _⟩) (fun H locs hw => ?_)
        refine lv_goto (tgt := 86) hx hb dX12_wishing_77 (by decide) ?_
        exact w_iret C hw hr (so2 hf).1 (so2 hf).2 dX12_wishing_86
    · replace hf := ite_t hf c4
      refine lv_aload_n hx hb dX12_wishing_39 rfl (lv_at hl 0 rfl) ?_
      refine lv_bipush (v := 80) hx hb dX12_wishing_40 (by decide) ?_
      obtain ⟨r11, k12, hf⟩ := bd_some hf
      refine w_goV hw (w_runV (rest := []) C hw (zX12_ran _ _ st (80 : Int32) r11 k12) (by decide) (EM_0 X _ _) rfl km_X12_411 ki_yX12_ran kv_X12_ran kz_X12 kc_X12_ran rfl ok_yX12_ran ⟨Nat.le_of_ble_eq_true rfl, Nat.le_of_ble_eq_true rfl⟩ rfl rfl rfl rfl hl.1 (Nat.le_of_ble_eq_true rfl) dX12_wishing_42 ⟨Nat.zero_le _, Nat.zero_le _⟩) (fun H locs hw => ?_)
      refine lv_aload_n hx hb dX12_wishing_45 rfl (lv_at hl 0 rfl) ?_
      refine lv_iload_n hx hb dX12_wishing_46 rfl (lv_at hl 1 rfl) ?_
      refine lv_iload_n hx hb dX12_wishing_47 rfl (lv_at hl 2 rfl) ?_
      obtain ⟨r13, k14, hf⟩ := bd_some hf
      refine w_goI hw (w_runV (rest := []) C hw (zX12_plainWishes _ _ r11 a1 a2 r13 k14) (by decide) (EM_0 X _ _) rfl km_X12_427 ki_yX12_plainWishes kv_X12_plainWishes kz_X12 kc_X12_plainWishes rfl ok_yX12_plainWishes ⟨Nat.le_of_ble_eq_true rfl, Nat.le_of_ble_eq_true rfl⟩ rfl rfl rfl rfl hl.1 (Nat.le_of_ble_eq_true rfl) dX12_wishing_48 ⟨Nat.zero_le _, Nat.zero_le _⟩) (fun H locs hw => ?_)
      refine lv_istore_n (lv' := [(3, .int r13.1), (0, .ref (xq X 0)), (1, .int a1), (2, .int a2)]) hx hb dX12_wishing_51 rfl hl (by decide) rfl (fun ls hl => ?_)
      refine lv_iload_n hx hb dX12_wishing_52 rfl (lv_at hl 0 rfl) ?_
      refine lv_aload_n hx hb dX12_wishing_53 rfl (lv_at hl 1 rfl) ?_
      refine lv_iload_n hx hb dX12_wishing_54 rfl (lv_at hl 2 rfl) ?_
      refine lv_iconst (v := 2) hx hb dX12_wishing_55 (by decide) ?_
      obtain ⟨r15, k16, hf⟩ := bd_some hf
      refine w_goI hw (w_runV (rest := [.int r13.1]) C hw (zX12_owing _ _ r13.2 a1 (2 : Int32) r15 k16) (by decide) (EM_0 X _ _) rfl km_X12_433 ki_yX12_owing kv_X12_owing kz_X12 kc_X12_owing rfl ok_yX12_owing ⟨Nat.le_of_ble_eq_true rfl, Nat.le_of_ble_eq_true rfl⟩ rfl rfl rfl rfl hl.1 (Nat.le_of_ble_eq_true rfl) dX12_wishing_56 ⟨Nat.zero_le _, Nat.zero_le _⟩) (fun H locs hw => ?_)
      refine lv_iadd hx hb dX12_wishing_59 ?_
      exact w_iret C hw hr (so2 hf).1 (so2 hf).2 dX12_wishing_60
  · replace hf := ite_f hf c2
    refine lv_aload_n hx hb dX12_wishing_13 rfl (lv_at hl 0 rfl) ?_
    refine lv_bipush (v := 41) hx hb dX12_wishing_14 (by decide) ?_
    obtain ⟨r17, k18, hf⟩ := bd_some hf
    refine w_goV hw (w_runV (rest := []) C hw (zX12_ran _ _ st (41 : Int32) r17 k18) (by decide) (EM_0 X _ _) rfl km_X12_411 ki_yX12_ran kv_X12_ran kz_X12 kc_X12_ran rfl ok_yX12_ran ⟨Nat.le_of_ble_eq_true rfl, Nat.le_of_ble_eq_true rfl⟩ rfl rfl rfl rfl hl.1 (Nat.le_of_ble_eq_true rfl) dX12_wishing_16 ⟨Nat.zero_le _, Nat.zero_le _⟩) (fun H locs hw => ?_)
    refine lv_aload_n hx hb dX12_wishing_19 rfl (lv_at hl 0 rfl) ?_
    refine lv_iload_n hx hb dX12_wishing_20 rfl (lv_at hl 1 rfl) ?_
    refine lv_iload_n hx hb dX12_wishing_21 rfl (lv_at hl 2 rfl) ?_
    refine lv_iconst (v := 1) hx hb dX12_wishing_22 (by decide) ?_
    refine lv_iadd hx hb dX12_wishing_23 ?_
    obtain ⟨r19, k20, hf⟩ := bd_some hf
    refine w_goI hw (w_runV (rest := []) C hw (zX12_hingeWishes _ _ r17 a1 (a2 + (1 : Int32)) r19 k20) (by decide) (EM_0 X _ _) rfl km_X12_430 ki_yX12_hingeWishes kv_X12_hingeWishes kz_X12 kc_X12_hingeWishes rfl ok_yX12_hingeWishes ⟨Nat.le_of_ble_eq_true rfl, Nat.le_of_ble_eq_true rfl⟩ rfl rfl rfl rfl hl.1 (Nat.le_of_ble_eq_true rfl) dX12_wishing_24 ⟨Nat.zero_le _, Nat.zero_le _⟩) (fun H locs hw => ?_)
    exact w_iret C hw hr (so2 hf).1 (so2 hf).2 dX12_wishing_27
theorem dX12_plainTells_0 : decode cX12_plainTells 0 = .ok (.aload_n 0, 1) := by decide +kernel
theorem dX12_plainTells_1 : decode cX12_plainTells 1 = .ok (.iconst 2, 1) := by decide +kernel
theorem dX12_plainTells_2 : decode cX12_plainTells 2 = .ok (.invokevirtual 411, 3) := by decide +kernel
theorem dX12_plainTells_5 : decode cX12_plainTells 5 = .ok (.aload_n 0, 1) := by decide +kernel
theorem dX12_plainTells_6 : decode cX12_plainTells 6 = .ok (.iload_n 1, 1) := by decide +kernel
theorem dX12_plainTells_7 : decode cX12_plainTells 7 = .ok (.iload_n 2, 1) := by decide +kernel
theorem dX12_plainTells_8 : decode cX12_plainTells 8 = .ok (.invokevirtual 442, 3) := by decide +kernel
theorem dX12_plainTells_11 : decode cX12_plainTells 11 = .ok (.istore_n 3, 1) := by decide +kernel
theorem dX12_plainTells_12 : decode cX12_plainTells 12 = .ok (.iload_n 3, 1) := by decide +kernel
theorem dX12_plainTells_13 : decode cX12_plainTells 13 = .ok (.aload_n 0, 1) := by decide +kernel
theorem dX12_plainTells_14 : decode cX12_plainTells 14 = .ok (.iload_n 1, 1) := by decide +kernel
theorem dX12_plainTells_15 : decode cX12_plainTells 15 = .ok (.iconst 1, 1) := by decide +kernel
theorem dX12_plainTells_16 : decode cX12_plainTells 16 = .ok (.invokevirtual 433, 3) := by decide +kernel
theorem dX12_plainTells_19 : decode cX12_plainTells 19 = .ok (.isub, 1) := by decide +kernel
theorem dX12_plainTells_20 : decode cX12_plainTells 20 = .ok (.ireturn, 1) := by decide +kernel
theorem ok_yX12_plainTells : yOk yX12_plainTells 2 := ⟨by decide +kernel, by decide +kernel, by decide +kernel⟩
def fX12_plainTells (st : St) (a1 : Int32) (a2 : Int32) : Option (Int32 × St) := (fX12_ran st (2 : Int32)).bind (fun r1 => (fX12_wishing r1 a1 a2).bind (fun r3 => (fX12_owing r3.2 a1 (1 : Int32)).bind (fun r5 => some ((r3.1 - r5.1), r5.2))))
set_option maxHeartbeats 4000000 in
theorem zX12_plainTells (l : Launch) (X : WX) (st : St) (a1 : Int32) (a2 : Int32) (R : Int32 × St) (hf : fX12_plainTells st a1 a2 = some R) : CtI l yX12_plainTells cX12_plainTells 4 .int ({ frames := 7, cells := 0, slots := 0, locals := 154 }) EM 43 X [.ref (xq X 0), .int a1, .int a2] st R.1 R.2 := by
  refine ct_in (own := RX12) (by decide +kernel) rfl (Nat.le_of_ble_eq_true rfl) (fun p e s m below meth c C hr hw ls hl => ?_)
  obtain ⟨hx, hb, hml, hown, hts⟩ := id C.1
  have hl : lv_has ls 4 [(0, .ref (xq X 0)), (1, .int a1), (2, .int a2)] := hl
  unfold fX12_plainTells at hf
  refine lv_aload_n hx hb dX12_plainTells_0 rfl (lv_at hl 0 rfl) ?_
  refine lv_iconst (v := 2) hx hb dX12_plainTells_1 (by decide) ?_
  obtain ⟨r1, k2, hf⟩ := bd_some hf
  refine w_goV hw (w_runV (rest := []) C hw (zX12_ran _ _ st (2 : Int32) r1 k2) (by decide) (EM_0 X _ _) rfl km_X12_411 ki_yX12_ran kv_X12_ran kz_X12 kc_X12_ran rfl ok_yX12_ran ⟨Nat.le_of_ble_eq_true rfl, Nat.le_of_ble_eq_true rfl⟩ rfl rfl rfl rfl hl.1 (Nat.le_of_ble_eq_true rfl) dX12_plainTells_2 ⟨Nat.zero_le _, Nat.zero_le _⟩) (fun H locs hw => ?_)
  refine lv_aload_n hx hb dX12_plainTells_5 rfl (lv_at hl 0 rfl) ?_
  refine lv_iload_n hx hb dX12_plainTells_6 rfl (lv_at hl 1 rfl) ?_
  refine lv_iload_n hx hb dX12_plainTells_7 rfl (lv_at hl 2 rfl) ?_
  obtain ⟨r3, k4, hf⟩ := bd_some hf
  refine w_goI hw (w_runV (rest := []) C hw (zX12_wishing _ _ r1 a1 a2 r3 k4) (by decide) (EM_0 X _ _) rfl km_X12_442 ki_yX12_wishing kv_X12_wishing kz_X12 kc_X12_wishing rfl ok_yX12_wishing ⟨Nat.le_of_ble_eq_true rfl, Nat.le_of_ble_eq_true rfl⟩ rfl rfl rfl rfl hl.1 (Nat.le_of_ble_eq_true rfl) dX12_plainTells_8 ⟨Nat.zero_le _, Nat.zero_le _⟩) (fun H locs hw => ?_)
  refine lv_istore_n (lv' := [(3, .int r3.1), (0, .ref (xq X 0)), (1, .int a1), (2, .int a2)]) hx hb dX12_plainTells_11 rfl hl (by decide) rfl (fun ls hl => ?_)
  refine lv_iload_n hx hb dX12_plainTells_12 rfl (lv_at hl 0 rfl) ?_
  refine lv_aload_n hx hb dX12_plainTells_13 rfl (lv_at hl 1 rfl) ?_
  refine lv_iload_n hx hb dX12_plainTells_14 rfl (lv_at hl 2 rfl) ?_
  refine lv_iconst (v := 1) hx hb dX12_plainTells_15 (by decide) ?_
  obtain ⟨r5, k6, hf⟩ := bd_some hf
  refine w_goI hw (w_runV (rest := [.int r3.1]) C hw (zX12_owing _ _ r3.2 a1 (1 : Int32) r5 k6) (by decide) (EM_0 X _ _) rfl km_X12_433 ki_yX12_owing kv_X12_owing kz_X12 kc_X12_owing rfl ok_yX12_owing ⟨Nat.le_of_ble_eq_true rfl, Nat.le_of_ble_eq_true rfl⟩ rfl rfl rfl rfl hl.1 (Nat.le_of_ble_eq_true rfl) dX12_plainTells_16 ⟨Nat.zero_le _, Nat.zero_le _⟩) (fun H locs hw => ?_)
  refine lv_isub hx hb dX12_plainTells_19 ?_
  exact w_iret C hw hr (so2 hf).1 (so2 hf).2 dX12_plainTells_20
theorem dX12_telling_0 : decode cX12_telling 0 = .ok (.aload_n 0, 1) := by decide +kernel
theorem dX12_telling_1 : decode cX12_telling 1 = .ok (.getfield 121, 3) := by decide +kernel
theorem dX12_telling_4 : decode cX12_telling 4 = .ok (.iload_n 1, 1) := by decide +kernel
theorem dX12_telling_5 : decode cX12_telling 5 = .ok (.iaload, 1) := by decide +kernel
theorem dX12_telling_6 : decode cX12_telling 6 = .ok (.iconst 4, 1) := by decide +kernel
theorem dX12_telling_7 : decode cX12_telling 7 = .ok (.if_icmp .ne 18, 3) := by decide +kernel
theorem dX12_telling_10 : decode cX12_telling 10 = .ok (.aload_n 0, 1) := by decide +kernel
theorem dX12_telling_11 : decode cX12_telling 11 = .ok (.bipush 50, 2) := by decide +kernel
theorem dX12_telling_13 : decode cX12_telling 13 = .ok (.invokevirtual 411, 3) := by decide +kernel
theorem dX12_telling_16 : decode cX12_telling 16 = .ok (.aload_n 0, 1) := by decide +kernel
theorem dX12_telling_17 : decode cX12_telling 17 = .ok (.iload_n 1, 1) := by decide +kernel
theorem dX12_telling_18 : decode cX12_telling 18 = .ok (.iload_n 2, 1) := by decide +kernel
theorem dX12_telling_19 : decode cX12_telling 19 = .ok (.invokevirtual 445, 3) := by decide +kernel
theorem dX12_telling_22 : decode cX12_telling 22 = .ok (.iconst 5, 1) := by decide +kernel
theorem dX12_telling_23 : decode cX12_telling 23 = .ok (.ixor, 1) := by decide +kernel
theorem dX12_telling_24 : decode cX12_telling 24 = .ok (.ireturn, 1) := by decide +kernel
theorem dX12_telling_25 : decode cX12_telling 25 = .ok (.aload_n 0, 1) := by decide +kernel
theorem dX12_telling_26 : decode cX12_telling 26 = .ok (.getfield 121, 3) := by decide +kernel
theorem dX12_telling_29 : decode cX12_telling 29 = .ok (.iload_n 1, 1) := by decide +kernel
theorem dX12_telling_30 : decode cX12_telling 30 = .ok (.iaload, 1) := by decide +kernel
theorem dX12_telling_31 : decode cX12_telling 31 = .ok (.iconst 5, 1) := by decide +kernel
theorem dX12_telling_32 : decode cX12_telling 32 = .ok (.if_icmp .ne 18, 3) := by decide +kernel
theorem dX12_telling_35 : decode cX12_telling 35 = .ok (.aload_n 0, 1) := by decide +kernel
theorem dX12_telling_36 : decode cX12_telling 36 = .ok (.bipush 61, 2) := by decide +kernel
theorem dX12_telling_38 : decode cX12_telling 38 = .ok (.invokevirtual 411, 3) := by decide +kernel
theorem dX12_telling_41 : decode cX12_telling 41 = .ok (.aload_n 0, 1) := by decide +kernel
theorem dX12_telling_42 : decode cX12_telling 42 = .ok (.iload_n 1, 1) := by decide +kernel
theorem dX12_telling_43 : decode cX12_telling 43 = .ok (.iload_n 2, 1) := by decide +kernel
theorem dX12_telling_44 : decode cX12_telling 44 = .ok (.invokevirtual 445, 3) := by decide +kernel
theorem dX12_telling_47 : decode cX12_telling 47 = .ok (.iconst 1, 1) := by decide +kernel
theorem dX12_telling_48 : decode cX12_telling 48 = .ok (.iadd, 1) := by decide +kernel
theorem dX12_telling_49 : decode cX12_telling 49 = .ok (.ireturn, 1) := by decide +kernel
theorem dX12_telling_50 : decode cX12_telling 50 = .ok (.aload_n 0, 1) := by decide +kernel
theorem dX12_telling_51 : decode cX12_telling 51 = .ok (.iload_n 1, 1) := by decide +kernel
theorem dX12_telling_52 : decode cX12_telling 52 = .ok (.iload_n 2, 1) := by decide +kernel
theorem dX12_telling_53 : decode cX12_telling 53 = .ok (.invokevirtual 445, 3) := by decide +kernel
theorem dX12_telling_56 : decode cX12_telling 56 = .ok (.ireturn, 1) := by decide +kernel
theorem ok_yX12_telling : yOk yX12_telling 2 := ⟨by decide +kernel, by decide +kernel, by decide +kernel⟩
def fX12_telling (st : St) (a1 : Int32) (a2 : Int32) : Option (Int32 × St) := gd (inB a1 50) (if gI st 37 a1.toNatClampNeg = (4 : Int32) then ((fX12_ran st (50 : Int32)).bind (fun r11 => (fX12_plainTells r11 a1 a2).bind (fun r13 => some ((r13.1 ^^^ (5 : Int32)), r13.2)))) else (gd (inB a1 50) (if gI st 37 a1.toNatClampNeg = (5 : Int32) then ((fX12_ran st (61 : Int32)).bind (fun r7 => (fX12_plainTells r7 a1 a2).bind (fun r9 => some ((r9.1 + (1 : Int32)), r9.2)))) else ((fX12_plainTells st a1 a2).bind (fun r5 => some (r5.1, r5.2))))))
set_option maxHeartbeats 4000000 in
theorem zX12_telling (l : Launch) (X : WX) (st : St) (a1 : Int32) (a2 : Int32) (R : Int32 × St) (hf : fX12_telling st a1 a2 = some R) : CtI l yX12_telling cX12_telling 3 .int ({ frames := 8, cells := 0, slots := 0, locals := 177 }) EM 43 X [.ref (xq X 0), .int a1, .int a2] st R.1 R.2 := by
  refine ct_in (own := RX12) (by decide +kernel) rfl (Nat.le_of_ble_eq_true rfl) (fun p e s m below meth c C hr hw ls hl => ?_)
  obtain ⟨hx, hb, hml, hown, hts⟩ := id C.1
  have hl : lv_has ls 3 [(0, .ref (xq X 0)), (1, .int a1), (2, .int a2)] := hl
  unfold fX12_telling at hf
  refine lv_aload_n hx hb dX12_telling_0 rfl (lv_at hl 0 rfl) ?_
  refine w_get (T := TX12) C hw (by decide) 51 kf_X12_121 (EM_0 X _ _) rfl inA12 (by decide) rfl dX12_telling_1 ?_
  refine lv_iload_n hx hb dX12_telling_4 rfl (lv_at hl 1 rfl) ?_
  obtain ⟨h1, hf⟩ := gd_some hf
  refine w_iald C hw (by decide) (EM_37 X _ _) h1 rfl dX12_telling_5 ?_
  refine lv_iconst (v := 4) hx hb dX12_telling_6 (by decide) ?_
  refine lv_icmp_ne (tgt := 25) hx hb dX12_telling_7 (by decide) (fun c2 => ?_) (fun c2 => ?_)
  · replace hf := ite_f hf c2
    refine lv_aload_n hx hb dX12_telling_25 rfl (lv_at hl 0 rfl) ?_
    refine w_get (T := TX12) C hw (by decide) 51 kf_X12_121 (EM_0 X _ _) rfl inA12 (by decide) rfl dX12_telling_26 ?_
    refine lv_iload_n hx hb dX12_telling_29 rfl (lv_at hl 1 rfl) ?_
    obtain ⟨h3, hf⟩ := gd_some hf
    refine w_iald C hw (by decide) (EM_37 X _ _) h3 rfl dX12_telling_30 ?_
    refine lv_iconst (v := 5) hx hb dX12_telling_31 (by decide) ?_
    refine lv_icmp_ne (tgt := 50) hx hb dX12_telling_32 (by decide) (fun c4 => ?_) (fun c4 => ?_)
    · replace hf := ite_f hf c4
      refine lv_aload_n hx hb dX12_telling_50 rfl (lv_at hl 0 rfl) ?_
      refine lv_iload_n hx hb dX12_telling_51 rfl (lv_at hl 1 rfl) ?_
      refine lv_iload_n hx hb dX12_telling_52 rfl (lv_at hl 2 rfl) ?_
      obtain ⟨r5, k6, hf⟩ := bd_some hf
      refine w_goI hw (w_runV (rest := []) C hw (zX12_plainTells _ _ st a1 a2 r5 k6) (by decide) (EM_0 X _ _) rfl km_X12_445 ki_yX12_plainTells kv_X12_plainTells kz_X12 kc_X12_plainTells rfl ok_yX12_plainTells ⟨Nat.le_of_ble_eq_true rfl, Nat.le_of_ble_eq_true rfl⟩ rfl rfl rfl rfl hl.1 (Nat.le_of_ble_eq_true rfl) dX12_telling_53 ⟨Nat.zero_le _, Nat.zero_le _⟩) (fun H locs hw => ?_)
      exact w_iret C hw hr (so2 hf).1 (so2 hf).2 dX12_telling_56
    · replace hf := ite_t hf c4
      refine lv_aload_n hx hb dX12_telling_35 rfl (lv_at hl 0 rfl) ?_
      refine lv_bipush (v := 61) hx hb dX12_telling_36 (by decide) ?_
      obtain ⟨r7, k8, hf⟩ := bd_some hf
      refine w_goV hw (w_runV (rest := []) C hw (zX12_ran _ _ st (61 : Int32) r7 k8) (by decide) (EM_0 X _ _) rfl km_X12_411 ki_yX12_ran kv_X12_ran kz_X12 kc_X12_ran rfl ok_yX12_ran ⟨Nat.le_of_ble_eq_true rfl, Nat.le_of_ble_eq_true rfl⟩ rfl rfl rfl rfl hl.1 (Nat.le_of_ble_eq_true rfl) dX12_telling_38 ⟨Nat.zero_le _, Nat.zero_le _⟩) (fun H locs hw => ?_)
      refine lv_aload_n hx hb dX12_telling_41 rfl (lv_at hl 0 rfl) ?_
      refine lv_iload_n hx hb dX12_telling_42 rfl (lv_at hl 1 rfl) ?_
      refine lv_iload_n hx hb dX12_telling_43 rfl (lv_at hl 2 rfl) ?_
      obtain ⟨r9, k10, hf⟩ := bd_some hf
      refine w_goI hw (w_runV (rest := []) C hw (zX12_plainTells _ _ r7 a1 a2 r9 k10) (by decide) (EM_0 X _ _) rfl km_X12_445 ki_yX12_plainTells kv_X12_plainTells kz_X12 kc_X12_plainTells rfl ok_yX12_plainTells ⟨Nat.le_of_ble_eq_true rfl, Nat.le_of_ble_eq_true rfl⟩ rfl rfl rfl rfl hl.1 (Nat.le_of_ble_eq_true rfl) dX12_telling_44 ⟨Nat.zero_le _, Nat.zero_le _⟩) (fun H locs hw => ?_)
      refine lv_iconst (v := 1) hx hb dX12_telling_47 (by decide) ?_
      refine lv_iadd hx hb dX12_telling_48 ?_
      exact w_iret C hw hr (so2 hf).1 (so2 hf).2 dX12_telling_49
  · replace hf := ite_t hf c2
    refine lv_aload_n hx hb dX12_telling_10 rfl (lv_at hl 0 rfl) ?_
    refine lv_bipush (v := 50) hx hb dX12_telling_11 (by decide) ?_
    obtain ⟨r11, k12, hf⟩ := bd_some hf
    refine w_goV hw (w_runV (rest := []) C hw (zX12_ran _ _ st (50 : Int32) r11 k12) (by decide) (EM_0 X _ _) rfl km_X12_411 ki_yX12_ran kv_X12_ran kz_X12 kc_X12_ran rfl ok_yX12_ran ⟨Nat.le_of_ble_eq_true rfl, Nat.le_of_ble_eq_true rfl⟩ rfl rfl rfl rfl hl.1 (Nat.le_of_ble_eq_true rfl) dX12_telling_13 ⟨Nat.zero_le _, Nat.zero_le _⟩) (fun H locs hw => ?_)
    refine lv_aload_n hx hb dX12_telling_16 rfl (lv_at hl 0 rfl) ?_
    refine lv_iload_n hx hb dX12_telling_17 rfl (lv_at hl 1 rfl) ?_
    refine lv_iload_n hx hb dX12_telling_18 rfl (lv_at hl 2 rfl) ?_
    obtain ⟨r13, k14, hf⟩ := bd_some hf
    refine w_goI hw (w_runV (rest := []) C hw (zX12_plainTells _ _ r11 a1 a2 r13 k14) (by decide) (EM_0 X _ _) rfl km_X12_445 ki_yX12_plainTells kv_X12_plainTells kz_X12 kc_X12_plainTells rfl ok_yX12_plainTells ⟨Nat.le_of_ble_eq_true rfl, Nat.le_of_ble_eq_true rfl⟩ rfl rfl rfl rfl hl.1 (Nat.le_of_ble_eq_true rfl) dX12_telling_19 ⟨Nat.zero_le _, Nat.zero_le _⟩) (fun H locs hw => ?_)
    refine lv_iconst (v := 5) hx hb dX12_telling_22 (by decide) ?_
    refine lv_ixor hx hb dX12_telling_23 ?_
    exact w_iret C hw hr (so2 hf).1 (so2 hf).2 dX12_telling_24
theorem dX12_act_0 : decode cX12_act 0 = .ok (.aload_n 0, 1) := by decide +kernel
theorem dX12_act_1 : decode cX12_act 1 = .ok (.iconst 0, 1) := by decide +kernel
theorem dX12_act_2 : decode cX12_act 2 = .ok (.putfield 408, 3) := by decide +kernel
theorem dX12_act_5 : decode cX12_act 5 = .ok (.aload_n 0, 1) := by decide +kernel
theorem dX12_act_6 : decode cX12_act 6 = .ok (.iload_n 1, 1) := by decide +kernel
theorem dX12_act_7 : decode cX12_act 7 = .ok (.invokevirtual 448, 3) := by decide +kernel
theorem dX12_act_10 : decode cX12_act 10 = .ok (.ifCond .eq 12, 3) := by decide +kernel
theorem dX12_act_13 : decode cX12_act 13 = .ok (.iload_n 2, 1) := by decide +kernel
theorem dX12_act_14 : decode cX12_act 14 = .ok (.iconst 0, 1) := by decide +kernel
theorem dX12_act_15 : decode cX12_act 15 = .ok (.iconst 3, 1) := by decide +kernel
theorem dX12_act_16 : decode cX12_act 16 = .ok (.invokestatic 147, 3) := by decide +kernel
theorem dX12_act_19 : decode cX12_act 19 = .ok (.ifCond .ne 5, 3) := by decide +kernel
theorem dX12_act_22 : decode cX12_act 22 = .ok (.iconst 0, 1) := by decide +kernel
theorem dX12_act_23 : decode cX12_act 23 = .ok (.ireturn, 1) := by decide +kernel
theorem dX12_act_24 : decode cX12_act 24 = .ok (.iload_n 2, 1) := by decide +kernel
theorem dX12_act_25 : decode cX12_act 25 = .ok (.ifCond .ne 12, 3) := by decide +kernel
theorem dX12_act_28 : decode cX12_act 28 = .ok (.aload_n 0, 1) := by decide +kernel
theorem dX12_act_29 : decode cX12_act 29 = .ok (.iload_n 1, 1) := by decide +kernel
theorem dX12_act_30 : decode cX12_act 30 = .ok (.iload_n 3, 1) := by decide +kernel
theorem dX12_act_31 : decode cX12_act 31 = .ok (.invokevirtual 424, 3) := by decide +kernel
theorem dX12_act_34 : decode cX12_act 34 = .ok (.goto 37, 3) := by decide +kernel
theorem dX12_act_37 : decode cX12_act 37 = .ok (.iload_n 2, 1) := by decide +kernel
theorem dX12_act_38 : decode cX12_act 38 = .ok (.iconst 1, 1) := by decide +kernel
theorem dX12_act_39 : decode cX12_act 39 = .ok (.if_icmp .ne 12, 3) := by decide +kernel
theorem dX12_act_42 : decode cX12_act 42 = .ok (.aload_n 0, 1) := by decide +kernel
theorem dX12_act_43 : decode cX12_act 43 = .ok (.iload_n 1, 1) := by decide +kernel
theorem dX12_act_44 : decode cX12_act 44 = .ok (.iload_n 3, 1) := by decide +kernel
theorem dX12_act_45 : decode cX12_act 45 = .ok (.invokevirtual 442, 3) := by decide +kernel
theorem dX12_act_48 : decode cX12_act 48 = .ok (.goto 23, 3) := by decide +kernel
theorem dX12_act_51 : decode cX12_act 51 = .ok (.iload_n 2, 1) := by decide +kernel
theorem dX12_act_52 : decode cX12_act 52 = .ok (.iconst 2, 1) := by decide +kernel
theorem dX12_act_53 : decode cX12_act 53 = .ok (.if_icmp .ne 12, 3) := by decide +kernel
theorem dX12_act_56 : decode cX12_act 56 = .ok (.aload_n 0, 1) := by decide +kernel
theorem dX12_act_57 : decode cX12_act 57 = .ok (.iload_n 1, 1) := by decide +kernel
theorem dX12_act_58 : decode cX12_act 58 = .ok (.iload_n 3, 1) := by decide +kernel
theorem dX12_act_59 : decode cX12_act 59 = .ok (.invokevirtual 433, 3) := by decide +kernel
theorem dX12_act_62 : decode cX12_act 62 = .ok (.goto 9, 3) := by decide +kernel
theorem dX12_act_65 : decode cX12_act 65 = .ok (.aload_n 0, 1) := by decide +kernel
theorem dX12_act_66 : decode cX12_act 66 = .ok (.iload_n 1, 1) := by decide +kernel
theorem dX12_act_67 : decode cX12_act 67 = .ok (.iload_n 3, 1) := by decide +kernel
theorem dX12_act_68 : decode cX12_act 68 = .ok (.invokevirtual 451, 3) := by decide +kernel
theorem dX12_act_71 : decode cX12_act 71 = .ok (.ireturn, 1) := by decide +kernel
theorem ok_yX12_act : yOk yX12_act 3 := ⟨by decide +kernel, by decide +kernel, by decide +kernel⟩
def fX12_act (st : St) (a1 : Int32) (a2 : Int32) (a3 : Int32) : Option (Int32 × St) := bnd (sI st 0 52 (0 : Int32)) (fun st1 => if bI (fX12_isBody st1 a1) = 0 then (some ((0 : Int32), st1)) else (if bI (fX12_in a2 (0 : Int32) (3 : Int32)) = 0 then (some ((0 : Int32), st1)) else (if a2 = 0 then ((fX12_falling st1 a1 a3).bind (fun r14 => some (r14.1, r14.2))) else (if a2 = (1 : Int32) then ((fX12_wishing st1 a1 a3).bind (fun r12 => some (r12.1, r12.2))) else (if a2 = (2 : Int32) then ((fX12_owing st1 a1 a3).bind (fun r10 => some (r10.1, r10.2))) else ((fX12_telling st1 a1 a3).bind (fun r8 => some (r8.1, r8.2))))))))
set_option maxHeartbeats 4000000 in
theorem zX12_act (l : Launch) (X : WX) (st : St) (a1 : Int32) (a2 : Int32) (a3 : Int32) (R : Int32 × St) (hf : fX12_act st a1 a2 a3 = some R) : CtI l yX12_act cX12_act 4 .int ({ frames := 9, cells := 0, slots := 0, locals := 199 }) EM 43 X [.ref (xq X 0), .int a1, .int a2, .int a3] st R.1 R.2 := by
  refine ct_in (own := RX12) (by decide +kernel) rfl (Nat.le_of_ble_eq_true rfl) (fun p e s m below meth c C hr hw ls hl => ?_)
  obtain ⟨hx, hb, hml, hown, hts⟩ := id C.1
  have hl : lv_has ls 4 [(0, .ref (xq X 0)), (1, .int a1), (2, .int a2), (3, .int a3)] := hl
  unfold fX12_act at hf
  refine lv_aload_n hx hb dX12_act_0 rfl (lv_at hl 0 rfl) ?_
  refine lv_iconst (v := 0) hx hb dX12_act_1 (by decide) ?_
  obtain ⟨st1, es2⟩ : ∃ z : St, z = sI st 0 52 (0 : Int32) := ⟨_, rfl⟩
  replace hf := bnd_nm hf es2
  refine w_puti (T := TX12) C hw (by decide) 52 kf_X12_408 (EM_0 X _ _) rfl inA12 tyX12_ok nmX12 (by decide) rfl rfl (Nat.le_of_ble_eq_true rfl) rfl dX12_act_2 (fun H locs hw => ?_)
  rw [← es2] at hw
  refine lv_aload_n hx hb dX12_act_5 rfl (lv_at hl 0 rfl) ?_
  refine lv_iload_n hx hb dX12_act_6 rfl (lv_at hl 1 rfl) ?_
  refine w_goI hw (w_runV (rest := []) C hw (zX12_isBody _ _ st1 a1) (by decide) (EM_0 X _ _) rfl km_X12_448 ki_yX12_isBody kv_X12_isBody kz_X12 kc_X12_isBody rfl ok_yX12_isBody ⟨Nat.le_of_ble_eq_true rfl, Nat.le_of_ble_eq_true rfl⟩ rfl rfl rfl rfl hl.1 (Nat.le_of_ble_eq_true rfl) dX12_act_7 ⟨Nat.zero_le _, Nat.zero_le _⟩) (fun H locs hw => ?_)
  refine lv_if_eq (tgt := 22) hx hb dX12_act_10 (by decide) (fun c3 => ?_) (fun c3 => ?_)
  · replace hf := ite_t hf c3
    refine lv_iconst (v := 0) hx hb dX12_act_22 (by decide) ?_
    exact w_iret C hw hr (so2 hf).1 (so2 hf).2 dX12_act_23
  · replace hf := ite_f hf c3
    refine lv_iload_n hx hb dX12_act_13 rfl (lv_at hl 2 rfl) ?_
    refine lv_iconst (v := 0) hx hb dX12_act_14 (by decide) ?_
    refine lv_iconst (v := 3) hx hb dX12_act_15 (by decide) ?_
    refine w_goI hw (w_runS (rest := []) C hw (zX12_in _ _ st1 a2 (0 : Int32) (3 : Int32)) km_X12_147 kt_yX12_in kz_X12 kc_X12_in ok_yX12_in ⟨Nat.le_of_ble_eq_true rfl, Nat.le_of_ble_eq_true rfl⟩ rfl rfl rfl rfl hl.1 (Nat.le_of_ble_eq_true rfl) dX12_act_16 ⟨Nat.zero_le _, Nat.zero_le _⟩) (fun H locs hw => ?_)
    refine lv_if_ne (tgt := 24) hx hb dX12_act_19 (by decide) (fun c4 => ?_) (fun c4 => ?_)
    · replace hf := ite_f hf c4
      refine lv_iload_n hx hb dX12_act_24 rfl (lv_at hl 2 rfl) ?_
      refine lv_if_ne (tgt := 37) hx hb dX12_act_25 (by decide) (fun c5 => ?_) (fun c5 => ?_)
      · replace hf := ite_f hf c5
        refine lv_iload_n hx hb dX12_act_37 rfl (lv_at hl 2 rfl) ?_
        refine lv_iconst (v := 1) hx hb dX12_act_38 (by decide) ?_
        refine lv_icmp_ne (tgt := 51) hx hb dX12_act_39 (by decide) (fun c6 => ?_) (fun c6 => ?_)
        · replace hf := ite_f hf c6
          refine lv_iload_n hx hb dX12_act_51 rfl (lv_at hl 2 rfl) ?_
          refine lv_iconst (v := 2) hx hb dX12_act_52 (by decide) ?_
          refine lv_icmp_ne (tgt := 65) hx hb dX12_act_53 (by decide) (fun c7 => ?_) (fun c7 => ?_)
          · replace hf := ite_f hf c7
            refine lv_aload_n hx hb dX12_act_65 rfl (lv_at hl 0 rfl) ?_
            refine lv_iload_n hx hb dX12_act_66 rfl (lv_at hl 1 rfl) ?_
            refine lv_iload_n hx hb dX12_act_67 rfl (lv_at hl 3 rfl) ?_
            obtain ⟨r8, k9, hf⟩ := bd_some hf
            refine w_goI hw (w_runV (rest := []) C hw (zX12_telling _ _ st1 a1 a3 r8 k9) (by decide) (EM_0 X _ _) rfl km_X12_451 ki_yX12_telling kv_X12_telling kz_X12 kc_X12_telling rfl ok_yX12_telling ⟨Nat.le_of_ble_eq_true rfl, Nat.le_of_ble_eq_true rfl⟩ rfl rfl rfl rfl hl.1 (Nat.le_of_ble_eq_true rfl) dX12_act_68 ⟨Nat.zero_le _, Nat.zero_le _⟩) (fun H locs hw => ?_)
            exact w_iret C hw hr (so2 hf).1 (so2 hf).2 dX12_act_71
          · replace hf := ite_t hf c7
            refine lv_aload_n hx hb dX12_act_56 rfl (lv_at hl 0 rfl) ?_
            refine lv_iload_n hx hb dX12_act_57 rfl (lv_at hl 1 rfl) ?_
            refine lv_iload_n hx hb dX12_act_58 rfl (lv_at hl 3 rfl) ?_
            obtain ⟨r10, k11, hf⟩ := bd_some hf
            refine w_goI hw (w_runV (rest := []) C hw (zX12_owing _ _ st1 a1 a3 r10 k11) (by decide) (EM_0 X _ _) rfl km_X12_433 ki_yX12_owing kv_X12_owing kz_X12 kc_X12_owing rfl ok_yX12_owing ⟨Nat.le_of_ble_eq_true rfl, Nat.le_of_ble_eq_true rfl⟩ rfl rfl rfl rfl hl.1 (Nat.le_of_ble_eq_true rfl) dX12_act_59 ⟨Nat.zero_le _, Nat.zero_le _⟩) (fun H locs hw => ?_)
            refine lv_goto (tgt := 71) hx hb dX12_act_62 (by decide) ?_
            exact w_iret C hw hr (so2 hf).1 (so2 hf).2 dX12_act_71
        · replace hf := ite_t hf c6
          refine lv_aload_n hx hb dX12_act_42 rfl (lv_at hl 0 rfl) ?_
          refine lv_iload_n hx hb dX12_act_43 rfl (lv_at hl 1 rfl) ?_
          refine lv_iload_n hx hb dX12_act_44 rfl (lv_at hl 3 rfl) ?_
          obtain ⟨r12, k13, hf⟩ := bd_some hf
          refine w_goI hw (w_runV (rest := []) C hw (zX12_wishing _ _ st1 a1 a3 r12 k13) (by decide) (EM_0 X _ _) rfl km_X12_442 ki_yX12_wishing kv_X12_wishing kz_X12 kc_X12_wishing rfl ok_yX12_wishing ⟨Nat.le_of_ble_eq_true rfl, Nat.le_of_ble_eq_true rfl⟩ rfl rfl rfl rfl hl.1 (Nat.le_of_ble_eq_true rfl) dX12_act_45 ⟨Nat.zero_le _, Nat.zero_le _⟩) (fun H locs hw => ?_)
          refine lv_goto (tgt := 71) hx hb dX12_act_48 (by decide) ?_
          exact w_iret C hw hr (so2 hf).1 (so2 hf).2 dX12_act_71
      · replace hf := ite_t hf c5
        refine lv_aload_n hx hb dX12_act_28 rfl (lv_at hl 0 rfl) ?_
        refine lv_iload_n hx hb dX12_act_29 rfl (lv_at hl 1 rfl) ?_
        refine lv_iload_n hx hb dX12_act_30 rfl (lv_at hl 3 rfl) ?_
        obtain ⟨r14, k15, hf⟩ := bd_some hf
        refine w_goI hw (w_runV (rest := []) C hw (zX12_falling _ _ st1 a1 a3 r14 k15) (by decide) (EM_0 X _ _) rfl km_X12_424 ki_yX12_falling kv_X12_falling kz_X12 kc_X12_falling rfl ok_yX12_falling ⟨Nat.le_of_ble_eq_true rfl, Nat.le_of_ble_eq_true rfl⟩ rfl rfl rfl rfl hl.1 (Nat.le_of_ble_eq_true rfl) dX12_act_31 ⟨Nat.zero_le _, Nat.zero_le _⟩) (fun H locs hw => ?_)
        refine lv_goto (tgt := 71) hx hb dX12_act_34 (by decide) ?_
        exact w_iret C hw hr (so2 hf).1 (so2 hf).2 dX12_act_71
    · replace hf := ite_t hf c4
      refine lv_iconst (v := 0) hx hb dX12_act_22 (by decide) ?_
      exact w_iret C hw hr (so2 hf).1 (so2 hf).2 dX12_act_23
theorem dX12_count_0 : decode cX12_count 0 = .ok (.iload_n 1, 1) := by decide +kernel
theorem dX12_count_1 : decode cX12_count 1 = .ok (.tableswitch 78 0 6 #[43, 48, 53, 58, 63, 68, 73], 43) := by decide +kernel
theorem dX12_count_44 : decode cX12_count 44 = .ok (.aload_n 0, 1) := by decide +kernel
theorem dX12_count_45 : decode cX12_count 45 = .ok (.getfield 144, 3) := by decide +kernel
theorem dX12_count_48 : decode cX12_count 48 = .ok (.ireturn, 1) := by decide +kernel
theorem dX12_count_49 : decode cX12_count 49 = .ok (.aload_n 0, 1) := by decide +kernel
theorem dX12_count_50 : decode cX12_count 50 = .ok (.getfield 151, 3) := by decide +kernel
theorem dX12_count_53 : decode cX12_count 53 = .ok (.ireturn, 1) := by decide +kernel
theorem dX12_count_54 : decode cX12_count 54 = .ok (.aload_n 0, 1) := by decide +kernel
theorem dX12_count_55 : decode cX12_count 55 = .ok (.getfield 154, 3) := by decide +kernel
theorem dX12_count_58 : decode cX12_count 58 = .ok (.ireturn, 1) := by decide +kernel
theorem dX12_count_59 : decode cX12_count 59 = .ok (.aload_n 0, 1) := by decide +kernel
theorem dX12_count_60 : decode cX12_count 60 = .ok (.getfield 214, 3) := by decide +kernel
theorem dX12_count_63 : decode cX12_count 63 = .ok (.ireturn, 1) := by decide +kernel
theorem dX12_count_64 : decode cX12_count 64 = .ok (.aload_n 0, 1) := by decide +kernel
theorem dX12_count_65 : decode cX12_count 65 = .ok (.getfield 187, 3) := by decide +kernel
theorem dX12_count_68 : decode cX12_count 68 = .ok (.ireturn, 1) := by decide +kernel
theorem dX12_count_69 : decode cX12_count 69 = .ok (.aload_n 0, 1) := by decide +kernel
theorem dX12_count_70 : decode cX12_count 70 = .ok (.getfield 405, 3) := by decide +kernel
theorem dX12_count_73 : decode cX12_count 73 = .ok (.ireturn, 1) := by decide +kernel
theorem dX12_count_74 : decode cX12_count 74 = .ok (.aload_n 0, 1) := by decide +kernel
theorem dX12_count_75 : decode cX12_count 75 = .ok (.getfield 408, 3) := by decide +kernel
theorem dX12_count_78 : decode cX12_count 78 = .ok (.ireturn, 1) := by decide +kernel
theorem dX12_count_79 : decode cX12_count 79 = .ok (.iconst (-1), 1) := by decide +kernel
theorem dX12_count_80 : decode cX12_count 80 = .ok (.ireturn, 1) := by decide +kernel
theorem ok_yX12_count : yOk yX12_count 1 := ⟨by decide +kernel, by decide +kernel, by decide +kernel⟩
def fX12_count (st : St) (a1 : Int32) : Int32 := if a1 = 0 then ((gI st 0 1)) else (if a1 = 1 then ((gI st 0 8)) else (if a1 = 2 then ((gI st 0 13)) else (if a1 = 3 then ((gI st 0 25)) else (if a1 = 4 then ((gI st 0 18)) else (if a1 = 5 then ((gI st 0 50)) else (if a1 = 6 then ((gI st 0 52)) else ((-1 : Int32))))))))
set_option maxHeartbeats 4000000 in
theorem zX12_count (l : Launch) (X : WX) (st : St) (a1 : Int32) : CtI l yX12_count cX12_count 2 .int ({ frames := 0, cells := 0, slots := 0, locals := 0 }) EM 43 X [.ref (xq X 0), .int a1] st (fX12_count st a1) st := by
  generalize hf : fX12_count st a1 = R
  refine ct_in (own := RX12) (by decide +kernel) rfl (Nat.le_of_ble_eq_true rfl) (fun p e s m below meth c C hr hw ls hl => ?_)
  obtain ⟨hx, hb, hml, hown, hts⟩ := id C.1
  have hl : lv_has ls 2 [(0, .ref (xq X 0)), (1, .int a1)] := hl
  unfold fX12_count at hf
  refine lv_iload_n hx hb dX12_count_0 rfl (lv_at hl 1 rfl) ?_
  by_cases c1 : a1 = 0
  · replace hf := ite_t hf c1
    refine lv_tableIn (tgt := 44) hx hb dX12_count_1 (by rw [c1]; decide) (by rw [c1]; decide) (by rw [c1]; rfl) (by decide) ?_
    refine lv_aload_n hx hb dX12_count_44 rfl (lv_at hl 0 rfl) ?_
    refine w_get (T := TX12) C hw (by decide) 1 kf_X12_144 (EM_0 X _ _) rfl inA12 (by decide) rfl dX12_count_45 ?_
    exact w_iret C hw hr hf rfl dX12_count_48
  · replace hf := ite_f hf c1
    by_cases c2 : a1 = 1
    · replace hf := ite_t hf c2
      refine lv_tableIn (tgt := 49) hx hb dX12_count_1 (by rw [c2]; decide) (by rw [c2]; decide) (by rw [c2]; rfl) (by decide) ?_
      refine lv_aload_n hx hb dX12_count_49 rfl (lv_at hl 0 rfl) ?_
      refine w_get (T := TX12) C hw (by decide) 8 kf_X12_151 (EM_0 X _ _) rfl inA12 (by decide) rfl dX12_count_50 ?_
      exact w_iret C hw hr hf rfl dX12_count_53
    · replace hf := ite_f hf c2
      by_cases c3 : a1 = 2
      · replace hf := ite_t hf c3
        refine lv_tableIn (tgt := 54) hx hb dX12_count_1 (by rw [c3]; decide) (by rw [c3]; decide) (by rw [c3]; rfl) (by decide) ?_
        refine lv_aload_n hx hb dX12_count_54 rfl (lv_at hl 0 rfl) ?_
        refine w_get (T := TX12) C hw (by decide) 13 kf_X12_154 (EM_0 X _ _) rfl inA12 (by decide) rfl dX12_count_55 ?_
        exact w_iret C hw hr hf rfl dX12_count_58
      · replace hf := ite_f hf c3
        by_cases c4 : a1 = 3
        · replace hf := ite_t hf c4
          refine lv_tableIn (tgt := 59) hx hb dX12_count_1 (by rw [c4]; decide) (by rw [c4]; decide) (by rw [c4]; rfl) (by decide) ?_
          refine lv_aload_n hx hb dX12_count_59 rfl (lv_at hl 0 rfl) ?_
          refine w_get (T := TX12) C hw (by decide) 25 kf_X12_214 (EM_0 X _ _) rfl inA12 (by decide) rfl dX12_count_60 ?_
          exact w_iret C hw hr hf rfl dX12_count_63
        · replace hf := ite_f hf c4
          by_cases c5 : a1 = 4
          · replace hf := ite_t hf c5
            refine lv_tableIn (tgt := 64) hx hb dX12_count_1 (by rw [c5]; decide) (by rw [c5]; decide) (by rw [c5]; rfl) (by decide) ?_
            refine lv_aload_n hx hb dX12_count_64 rfl (lv_at hl 0 rfl) ?_
            refine w_get (T := TX12) C hw (by decide) 18 kf_X12_187 (EM_0 X _ _) rfl inA12 (by decide) rfl dX12_count_65 ?_
            exact w_iret C hw hr hf rfl dX12_count_68
          · replace hf := ite_f hf c5
            by_cases c6 : a1 = 5
            · replace hf := ite_t hf c6
              refine lv_tableIn (tgt := 69) hx hb dX12_count_1 (by rw [c6]; decide) (by rw [c6]; decide) (by rw [c6]; rfl) (by decide) ?_
              refine lv_aload_n hx hb dX12_count_69 rfl (lv_at hl 0 rfl) ?_
              refine w_get (T := TX12) C hw (by decide) 50 kf_X12_405 (EM_0 X _ _) rfl inA12 (by decide) rfl dX12_count_70 ?_
              exact w_iret C hw hr hf rfl dX12_count_73
            · replace hf := ite_f hf c6
              by_cases c7 : a1 = 6
              · replace hf := ite_t hf c7
                refine lv_tableIn (tgt := 74) hx hb dX12_count_1 (by rw [c7]; decide) (by rw [c7]; decide) (by rw [c7]; rfl) (by decide) ?_
                refine lv_aload_n hx hb dX12_count_74 rfl (lv_at hl 0 rfl) ?_
                refine w_get (T := TX12) C hw (by decide) 52 kf_X12_408 (EM_0 X _ _) rfl inA12 (by decide) rfl dX12_count_75 ?_
                exact w_iret C hw hr hf rfl dX12_count_78
              · replace hf := ite_f hf c7
                refine lv_tableOut (tgt := 79) hx hb dX12_count_1 (by have q0 := ne_toInt (a := 0) c1 (by decide); have q1 := ne_toInt (a := 1) c2 (by decide); have q2 := ne_toInt (a := 2) c3 (by decide); have q3 := ne_toInt (a := 3) c4 (by decide); have q4 := ne_toInt (a := 4) c5 (by decide); have q5 := ne_toInt (a := 5) c6 (by decide); have q6 := ne_toInt (a := 6) c7 (by decide); omega) (by decide) ?_
                refine lv_iconst (v := -1) hx hb dX12_count_79 (by decide) ?_
                exact w_iret C hw hr hf rfl dX12_count_80
theorem dX12_keep_0 : decode cX12_keep 0 = .ok (.iload_n 1, 1) := by decide +kernel
theorem dX12_keep_1 : decode cX12_keep 1 = .ok (.invokestatic 168, 3) := by decide +kernel
theorem dX12_keep_4 : decode cX12_keep 4 = .ok (.ifCond .eq 16, 3) := by decide +kernel
theorem dX12_keep_7 : decode cX12_keep 7 = .ok (.iload_n 2, 1) := by decide +kernel
theorem dX12_keep_8 : decode cX12_keep 8 = .ok (.iconst (-1), 1) := by decide +kernel
theorem dX12_keep_9 : decode cX12_keep 9 = .ok (.if_icmp .eq 13, 3) := by decide +kernel
theorem dX12_keep_12 : decode cX12_keep 12 = .ok (.aload_n 0, 1) := by decide +kernel
theorem dX12_keep_13 : decode cX12_keep 13 = .ok (.iload_n 2, 1) := by decide +kernel
theorem dX12_keep_14 : decode cX12_keep 14 = .ok (.invokevirtual 448, 3) := by decide +kernel
theorem dX12_keep_17 : decode cX12_keep 17 = .ok (.ifCond .ne 5, 3) := by decide +kernel
theorem dX12_keep_20 : decode cX12_keep 20 = .ok (.iconst (-1), 1) := by decide +kernel
theorem dX12_keep_21 : decode cX12_keep 21 = .ok (.ireturn, 1) := by decide +kernel
theorem dX12_keep_22 : decode cX12_keep 22 = .ok (.aload_n 0, 1) := by decide +kernel
theorem dX12_keep_23 : decode cX12_keep 23 = .ok (.getfield 127, 3) := by decide +kernel
theorem dX12_keep_26 : decode cX12_keep 26 = .ok (.iload_n 1, 1) := by decide +kernel
theorem dX12_keep_27 : decode cX12_keep 27 = .ok (.iload_n 2, 1) := by decide +kernel
theorem dX12_keep_28 : decode cX12_keep 28 = .ok (.iastore, 1) := by decide +kernel
theorem dX12_keep_29 : decode cX12_keep 29 = .ok (.iconst 1, 1) := by decide +kernel
theorem dX12_keep_30 : decode cX12_keep 30 = .ok (.ireturn, 1) := by decide +kernel
theorem ok_yX12_keep : yOk yX12_keep 2 := ⟨by decide +kernel, by decide +kernel, by decide +kernel⟩
def fX12_keep (st : St) (a1 : Int32) (a2 : Int32) : Option (Int32 × St) := if bI (fX12_isShelf a1) = 0 then (some ((-1 : Int32), st)) else (if a2 = (-1 : Int32) then (gd (inB a1 6) (bnd (sI st 39 a1.toNatClampNeg a2) (fun st4 => some ((1 : Int32), st4)))) else (if bI (fX12_isBody st a2) = 0 then (some ((-1 : Int32), st)) else (gd (inB a1 6) (bnd (sI st 39 a1.toNatClampNeg a2) (fun st8 => some ((1 : Int32), st8))))))
set_option maxHeartbeats 4000000 in
theorem zX12_keep (l : Launch) (X : WX) (st : St) (a1 : Int32) (a2 : Int32) (R : Int32 × St) (hf : fX12_keep st a1 a2 = some R) : CtI l yX12_keep cX12_keep 3 .int ({ frames := 2, cells := 0, slots := 0, locals := 43 }) EM 43 X [.ref (xq X 0), .int a1, .int a2] st R.1 R.2 := by
  refine ct_in (own := RX12) (by decide +kernel) rfl (Nat.le_of_ble_eq_true rfl) (fun p e s m below meth c C hr hw ls hl => ?_)
  obtain ⟨hx, hb, hml, hown, hts⟩ := id C.1
  have hl : lv_has ls 3 [(0, .ref (xq X 0)), (1, .int a1), (2, .int a2)] := hl
  unfold fX12_keep at hf
  refine lv_iload_n hx hb dX12_keep_0 rfl (lv_at hl 1 rfl) ?_
  refine w_goI hw (w_runS (rest := []) C hw (zX12_isShelf _ _ st a1) km_X12_168 kt_yX12_isShelf kz_X12 kc_X12_isShelf ok_yX12_isShelf ⟨Nat.le_of_ble_eq_true rfl, Nat.le_of_ble_eq_true rfl⟩ rfl rfl rfl rfl hl.1 (Nat.le_of_ble_eq_true rfl) dX12_keep_1 ⟨Nat.zero_le _, Nat.zero_le _⟩) (fun H locs hw => ?_)
  refine lv_if_eq (tgt := 20) hx hb dX12_keep_4 (by decide) (fun c1 => ?_) (fun c1 => ?_)
  · replace hf := ite_t hf c1
    refine lv_iconst (v := -1) hx hb dX12_keep_20 (by decide) ?_
    exact w_iret C hw hr (so2 hf).1 (so2 hf).2 dX12_keep_21
  · replace hf := ite_f hf c1
    refine lv_iload_n hx hb dX12_keep_7 rfl (lv_at hl 2 rfl) ?_
    refine lv_iconst (v := -1) hx hb dX12_keep_8 (by decide) ?_
    refine lv_icmp_eq (tgt := 22) hx hb dX12_keep_9 (by decide) (fun c2 => ?_) (fun c2 => ?_)
    · replace hf := ite_t hf c2
      refine lv_aload_n hx hb dX12_keep_22 rfl (lv_at hl 0 rfl) ?_
      refine w_get (T := TX12) C hw (by decide) 54 kf_X12_127 (EM_0 X _ _) rfl inA12 (by decide) rfl dX12_keep_23 ?_
      refine lv_iload_n hx hb dX12_keep_26 rfl (lv_at hl 1 rfl) ?_
      refine lv_iload_n hx hb dX12_keep_27 rfl (lv_at hl 2 rfl) ?_
      obtain ⟨h3, hf⟩ := gd_some hf
      obtain ⟨st4, es5⟩ : ∃ z : St, z = sI st 39 a1.toNatClampNeg a2 := ⟨_, rfl⟩
      replace hf := bnd_nm hf es5
      refine w_iast C hw (by decide) (fun f9 => EM_39 X f9 _) h3 rfl dX12_keep_28 (fun H locs hw => ?_)
      rw [← es5] at hw
      refine lv_iconst (v := 1) hx hb dX12_keep_29 (by decide) ?_
      exact w_iret C hw hr (so2 hf).1 (so2 hf).2 dX12_keep_30
    · replace hf := ite_f hf c2
      refine lv_aload_n hx hb dX12_keep_12 rfl (lv_at hl 0 rfl) ?_
      refine lv_iload_n hx hb dX12_keep_13 rfl (lv_at hl 2 rfl) ?_
      refine w_goI hw (w_runV (rest := []) C hw (zX12_isBody _ _ st a2) (by decide) (EM_0 X _ _) rfl km_X12_448 ki_yX12_isBody kv_X12_isBody kz_X12 kc_X12_isBody rfl ok_yX12_isBody ⟨Nat.le_of_ble_eq_true rfl, Nat.le_of_ble_eq_true rfl⟩ rfl rfl rfl rfl hl.1 (Nat.le_of_ble_eq_true rfl) dX12_keep_14 ⟨Nat.zero_le _, Nat.zero_le _⟩) (fun H locs hw => ?_)
      refine lv_if_ne (tgt := 22) hx hb dX12_keep_17 (by decide) (fun c6 => ?_) (fun c6 => ?_)
      · replace hf := ite_f hf c6
        refine lv_aload_n hx hb dX12_keep_22 rfl (lv_at hl 0 rfl) ?_
        refine w_get (T := TX12) C hw (by decide) 54 kf_X12_127 (EM_0 X _ _) rfl inA12 (by decide) rfl dX12_keep_23 ?_
        refine lv_iload_n hx hb dX12_keep_26 rfl (lv_at hl 1 rfl) ?_
        refine lv_iload_n hx hb dX12_keep_27 rfl (lv_at hl 2 rfl) ?_
        obtain ⟨h7, hf⟩ := gd_some hf
        obtain ⟨st8, es9⟩ : ∃ z : St, z = sI st 39 a1.toNatClampNeg a2 := ⟨_, rfl⟩
        replace hf := bnd_nm hf es9
        refine w_iast C hw (by decide) (fun f9 => EM_39 X f9 _) h7 rfl dX12_keep_28 (fun H locs hw => ?_)
        rw [← es9] at hw
        refine lv_iconst (v := 1) hx hb dX12_keep_29 (by decide) ?_
        exact w_iret C hw hr (so2 hf).1 (so2 hf).2 dX12_keep_30
      · replace hf := ite_t hf c6
        refine lv_iconst (v := -1) hx hb dX12_keep_20 (by decide) ?_
        exact w_iret C hw hr (so2 hf).1 (so2 hf).2 dX12_keep_21
theorem dX12_row_0 : decode cX12_row 0 = .ok (.iload_n 1, 1) := by decide +kernel
theorem dX12_row_1 : decode cX12_row 1 = .ok (.invokestatic 168, 3) := by decide +kernel
theorem dX12_row_4 : decode cX12_row 4 = .ok (.ifCond .eq 18, 3) := by decide +kernel
theorem dX12_row_7 : decode cX12_row 7 = .ok (.iload_n 2, 1) := by decide +kernel
theorem dX12_row_8 : decode cX12_row 8 = .ok (.iconst 0, 1) := by decide +kernel
theorem dX12_row_9 : decode cX12_row 9 = .ok (.iconst 4, 1) := by decide +kernel
theorem dX12_row_10 : decode cX12_row 10 = .ok (.invokestatic 147, 3) := by decide +kernel
theorem dX12_row_13 : decode cX12_row 13 = .ok (.ifCond .eq 9, 3) := by decide +kernel
theorem dX12_row_16 : decode cX12_row 16 = .ok (.iload_n 3, 1) := by decide +kernel
theorem dX12_row_17 : decode cX12_row 17 = .ok (.bipush 60, 2) := by decide +kernel
theorem dX12_row_19 : decode cX12_row 19 = .ok (.if_icmp .le 5, 3) := by decide +kernel
theorem dX12_row_22 : decode cX12_row 22 = .ok (.iconst (-1), 1) := by decide +kernel
theorem dX12_row_23 : decode cX12_row 23 = .ok (.ireturn, 1) := by decide +kernel
theorem dX12_row_24 : decode cX12_row 24 = .ok (.iload_n 3, 1) := by decide +kernel
theorem dX12_row_25 : decode cX12_row 25 = .ok (.ifCond .ge 6, 3) := by decide +kernel
theorem dX12_row_28 : decode cX12_row 28 = .ok (.bipush (-14), 2) := by decide +kernel
theorem dX12_row_30 : decode cX12_row 30 = .ok (.ireturn, 1) := by decide +kernel
theorem dX12_row_31 : decode cX12_row 31 = .ok (.aload_n 0, 1) := by decide +kernel
theorem dX12_row_32 : decode cX12_row 32 = .ok (.getfield 127, 3) := by decide +kernel
theorem dX12_row_35 : decode cX12_row 35 = .ok (.iload_n 1, 1) := by decide +kernel
theorem dX12_row_36 : decode cX12_row 36 = .ok (.bipush (-2), 2) := by decide +kernel
theorem dX12_row_38 : decode cX12_row 38 = .ok (.iload_n 2, 1) := by decide +kernel
theorem dX12_row_39 : decode cX12_row 39 = .ok (.isub, 1) := by decide +kernel
theorem dX12_row_40 : decode cX12_row 40 = .ok (.iastore, 1) := by decide +kernel
theorem dX12_row_41 : decode cX12_row 41 = .ok (.aload_n 0, 1) := by decide +kernel
theorem dX12_row_42 : decode cX12_row 42 = .ok (.getfield 130, 3) := by decide +kernel
theorem dX12_row_45 : decode cX12_row 45 = .ok (.iload_n 1, 1) := by decide +kernel
theorem dX12_row_46 : decode cX12_row 46 = .ok (.iload_n 3, 1) := by decide +kernel
theorem dX12_row_47 : decode cX12_row 47 = .ok (.iastore, 1) := by decide +kernel
theorem dX12_row_48 : decode cX12_row 48 = .ok (.bipush 60, 2) := by decide +kernel
theorem dX12_row_50 : decode cX12_row 50 = .ok (.iload_n 1, 1) := by decide +kernel
theorem dX12_row_51 : decode cX12_row 51 = .ok (.imul, 1) := by decide +kernel
theorem dX12_row_52 : decode cX12_row 52 = .ok (.istore 4, 2) := by decide +kernel
theorem dX12_row_54 : decode cX12_row 54 = .ok (.iload 4, 2) := by decide +kernel
theorem dX12_row_56 : decode cX12_row 56 = .ok (.bipush 60, 2) := by decide +kernel
theorem dX12_row_58 : decode cX12_row 58 = .ok (.iload_n 1, 1) := by decide +kernel
theorem dX12_row_59 : decode cX12_row 59 = .ok (.imul, 1) := by decide +kernel
theorem dX12_row_60 : decode cX12_row 60 = .ok (.bipush 60, 2) := by decide +kernel
theorem dX12_row_62 : decode cX12_row 62 = .ok (.iadd, 1) := by decide +kernel
theorem dX12_row_63 : decode cX12_row 63 = .ok (.if_icmp .ge 17, 3) := by decide +kernel
theorem dX12_row_66 : decode cX12_row 66 = .ok (.aload_n 0, 1) := by decide +kernel
theorem dX12_row_67 : decode cX12_row 67 = .ok (.getfield 133, 3) := by decide +kernel
theorem dX12_row_70 : decode cX12_row 70 = .ok (.iload 4, 2) := by decide +kernel
theorem dX12_row_72 : decode cX12_row 72 = .ok (.lconst 0, 1) := by decide +kernel
theorem dX12_row_73 : decode cX12_row 73 = .ok (.lastore, 1) := by decide +kernel
theorem dX12_row_74 : decode cX12_row 74 = .ok (.iinc 4 1, 3) := by decide +kernel
theorem dX12_row_77 : decode cX12_row 77 = .ok (.goto (-23), 3) := by decide +kernel
theorem dX12_row_80 : decode cX12_row 80 = .ok (.iconst 1, 1) := by decide +kernel
theorem dX12_row_81 : decode cX12_row 81 = .ok (.ireturn, 1) := by decide +kernel
theorem ok_yX12_row : yOk yX12_row 3 := ⟨by decide +kernel, by decide +kernel, by decide +kernel⟩
def fX12_row_54 (n : Nat) : Nat → St → Int32 → Int32 → Option (Int32 × St)
  | 0, _, _, _ => none
  | k + 1, st, v1, v4 => if ((60 : Int32) * v1) + (60 : Int32) ≤ v4 then (some ((1 : Int32), st)) else (gd (inB v4 360) (bnd (sL st 41 v4.toNatClampNeg (0 : Int64)) (fun st15 => bnd (v4 + (1 : Int32)) (fun x17 => fX12_row_54 n k st15 v1 x17))))
set_option maxHeartbeats 4000000 in
theorem tX12_row_54 {p : Program} {l : Launch} {e : Env} {s : State} {m : MethodId} {args : Array Value} {below : List Frame} {meth : Method} {c : Code} {X : WX} (C : Amb 43 X p s m args meth c cX12_row 5 RX12) (hr : meth.sig.returnType = some .int) {R : Int32 × St} {n : Nat} : ∀ (k : Nat) (st : St) (v1 : Int32) (v4 : Int32) (H : Heap) (locs : List Loc) (ls : Array Slot), Wd EM 43 X s.heap st H locs → lv_has ls 5 [(0, .ref (xq X 0)), (1, .int v1), (4, .int v4)] → fX12_row_54 n k st v1 v4 = some R → W p l e { frames := 2, cells := 0, slots := 0, locals := 42 } s m args below meth c H locs 0 0 (QI EM 43 X R.1 R.2 below args s) (F0 m 54 ls []) := by
  obtain ⟨hx, hb, hml, hown, hts⟩ := id C.1
  intro k
  induction k with
  | zero => intro st v1 v4 H locs ls  hw hl hf; exact absurd (show none = some R from hf) (fun z => by cases z)
  | succ k ih =>
    intro st v1 v4 H locs ls  hw hl hf
    rw [fX12_row_54] at hf
    refine lv_iload hx hb dX12_row_54 (lv_at hl 2 rfl) ?_
    refine lv_bipush (v := 60) hx hb dX12_row_56 (by decide) ?_
    refine lv_iload_n hx hb dX12_row_58 rfl (lv_at hl 1 rfl) ?_
    refine lv_imul hx hb dX12_row_59 ?_
    refine lv_bipush (v := 60) hx hb dX12_row_60 (by decide) ?_
    refine lv_iadd hx hb dX12_row_62 ?_
    refine lv_icmp_ge (tgt := 80) hx hb dX12_row_63 (by decide) (fun c13 => ?_) (fun c13 => ?_)
    · replace hf := ite_t hf c13
      refine lv_iconst (v := 1) hx hb dX12_row_80 (by decide) ?_
      exact w_iret C hw hr (so2 hf).1 (so2 hf).2 dX12_row_81
    · replace hf := ite_f hf c13
      refine lv_aload_n hx hb dX12_row_66 rfl (lv_at hl 0 rfl) ?_
      refine w_get (T := TX12) C hw (by decide) 56 kf_X12_133 (EM_0 X _ _) rfl inA12 (by decide) rfl dX12_row_67 ?_
      refine lv_iload hx hb dX12_row_70 (lv_at hl 2 rfl) ?_
      refine lv_lconst (v := 0) hx hb dX12_row_72 (by decide) ?_
      obtain ⟨h14, hf⟩ := gd_some hf
      obtain ⟨st15, es16⟩ : ∃ z : St, z = sL st 41 v4.toNatClampNeg (0 : Int64) := ⟨_, rfl⟩
      replace hf := bnd_nm hf es16
      refine w_last C hw (by decide) (fun g9 => EM_41 X _ g9) h14 rfl dX12_row_73 (fun H locs hw => ?_)
      rw [← es16] at hw
      obtain ⟨x17, e18⟩ : ∃ z : Int32, z = v4 + (1 : Int32) := ⟨_, rfl⟩
      replace hf := bnd_nm hf e18
      refine lv_iinc (v := x17) (lv' := [(4, .int x17), (0, .ref (xq X 0)), (1, .int v1)]) hx hb dX12_row_74 hl (k := 2) rfl (by rw [e18]; rfl) (by decide) rfl (fun ls hl => ?_)
      refine lv_goto (tgt := 54) hx hb dX12_row_77 (by decide) ?_
      exact ih st15 v1 x17 _ _ _ hw (lv_sub hl [1, 2, 0] rfl) hf
def fX12_row (n : Nat) (st : St) (a1 : Int32) (a2 : Int32) (a3 : Int32) : Option (Int32 × St) := if bI (fX12_isShelf a1) = 0 then (some ((-1 : Int32), st)) else (if bI (fX12_in a2 (0 : Int32) (4 : Int32)) = 0 then (some ((-1 : Int32), st)) else (if a3 ≤ (60 : Int32) then (if 0 ≤ a3 then (gd (inB a1 6) (bnd (sI st 39 a1.toNatClampNeg ((-2 : Int32) - a2)) (fun st6 => gd (inB a1 6) (bnd (sI st6 40 a1.toNatClampNeg a3) (fun st9 => bnd ((60 : Int32) * a1) (fun x11 => fX12_row_54 n n st9 a1 x11)))))) else (some ((-14 : Int32), st))) else (some ((-1 : Int32), st))))
set_option maxHeartbeats 4000000 in
theorem zX12_row (l : Launch) (X : WX) (n : Nat) (st : St) (a1 : Int32) (a2 : Int32) (a3 : Int32) (R : Int32 × St) (hf : fX12_row n st a1 a2 a3 = some R) : CtI l yX12_row cX12_row 5 .int ({ frames := 2, cells := 0, slots := 0, locals := 42 }) EM 43 X [.ref (xq X 0), .int a1, .int a2, .int a3] st R.1 R.2 := by
  refine ct_in (own := RX12) (by decide +kernel) rfl (Nat.le_of_ble_eq_true rfl) (fun p e s m below meth c C hr hw ls hl => ?_)
  obtain ⟨hx, hb, hml, hown, hts⟩ := id C.1
  have hl : lv_has ls 5 [(0, .ref (xq X 0)), (1, .int a1), (2, .int a2), (3, .int a3)] := hl
  unfold fX12_row at hf
  refine lv_iload_n hx hb dX12_row_0 rfl (lv_at hl 1 rfl) ?_
  refine w_goI hw (w_runS (rest := []) C hw (zX12_isShelf _ _ st a1) km_X12_168 kt_yX12_isShelf kz_X12 kc_X12_isShelf ok_yX12_isShelf ⟨Nat.le_of_ble_eq_true rfl, Nat.le_of_ble_eq_true rfl⟩ rfl rfl rfl rfl hl.1 (Nat.le_of_ble_eq_true rfl) dX12_row_1 ⟨Nat.zero_le _, Nat.zero_le _⟩) (fun H locs hw => ?_)
  refine lv_if_eq (tgt := 22) hx hb dX12_row_4 (by decide) (fun c1 => ?_) (fun c1 => ?_)
  · replace hf := ite_t hf c1
    refine lv_iconst (v := -1) hx hb dX12_row_22 (by decide) ?_
    exact w_iret C hw hr (so2 hf).1 (so2 hf).2 dX12_row_23
  · replace hf := ite_f hf c1
    refine lv_iload_n hx hb dX12_row_7 rfl (lv_at hl 2 rfl) ?_
    refine lv_iconst (v := 0) hx hb dX12_row_8 (by decide) ?_
    refine lv_iconst (v := 4) hx hb dX12_row_9 (by decide) ?_
    refine w_goI hw (w_runS (rest := []) C hw (zX12_in _ _ st a2 (0 : Int32) (4 : Int32)) km_X12_147 kt_yX12_in kz_X12 kc_X12_in ok_yX12_in ⟨Nat.le_of_ble_eq_true rfl, Nat.le_of_ble_eq_true rfl⟩ rfl rfl rfl rfl hl.1 (Nat.le_of_ble_eq_true rfl) dX12_row_10 ⟨Nat.zero_le _, Nat.zero_le _⟩) (fun H locs hw => ?_)
    refine lv_if_eq (tgt := 22) hx hb dX12_row_13 (by decide) (fun c2 => ?_) (fun c2 => ?_)
    · replace hf := ite_t hf c2
      refine lv_iconst (v := -1) hx hb dX12_row_22 (by decide) ?_
      exact w_iret C hw hr (so2 hf).1 (so2 hf).2 dX12_row_23
    · replace hf := ite_f hf c2
      refine lv_iload_n hx hb dX12_row_16 rfl (lv_at hl 3 rfl) ?_
      refine lv_bipush (v := 60) hx hb dX12_row_17 (by decide) ?_
      refine lv_icmp_le (tgt := 24) hx hb dX12_row_19 (by decide) (fun c3 => ?_) (fun c3 => ?_)
      · replace hf := ite_t hf c3
        refine lv_iload_n hx hb dX12_row_24 rfl (lv_at hl 3 rfl) ?_
        refine lv_if_ge (tgt := 31) hx hb dX12_row_25 (by decide) (fun c4 => ?_) (fun c4 => ?_)
        · replace hf := ite_t hf c4
          refine lv_aload_n hx hb dX12_row_31 rfl (lv_at hl 0 rfl) ?_
          refine w_get (T := TX12) C hw (by decide) 54 kf_X12_127 (EM_0 X _ _) rfl inA12 (by decide) rfl dX12_row_32 ?_
          refine lv_iload_n hx hb dX12_row_35 rfl (lv_at hl 1 rfl) ?_
          refine lv_bipush (v := -2) hx hb dX12_row_36 (by decide) ?_
          refine lv_iload_n hx hb dX12_row_38 rfl (lv_at hl 2 rfl) ?_
          refine lv_isub hx hb dX12_row_39 ?_
          obtain ⟨h5, hf⟩ := gd_some hf
          obtain ⟨st6, es7⟩ : ∃ z : St, z = sI st 39 a1.toNatClampNeg ((-2 : Int32) - a2) := ⟨_, rfl⟩
          replace hf := bnd_nm hf es7
          refine w_iast C hw (by decide) (fun f9 => EM_39 X f9 _) h5 rfl dX12_row_40 (fun H locs hw => ?_)
          rw [← es7] at hw
          refine lv_aload_n hx hb dX12_row_41 rfl (lv_at hl 0 rfl) ?_
          refine w_get (T := TX12) C hw (by decide) 55 kf_X12_130 (EM_0 X _ _) rfl inA12 (by decide) rfl dX12_row_42 ?_
          refine lv_iload_n hx hb dX12_row_45 rfl (lv_at hl 1 rfl) ?_
          refine lv_iload_n hx hb dX12_row_46 rfl (lv_at hl 3 rfl) ?_
          obtain ⟨h8, hf⟩ := gd_some hf
          obtain ⟨st9, es10⟩ : ∃ z : St, z = sI st6 40 a1.toNatClampNeg a3 := ⟨_, rfl⟩
          replace hf := bnd_nm hf es10
          refine w_iast C hw (by decide) (fun f9 => EM_40 X f9 _) h8 rfl dX12_row_47 (fun H locs hw => ?_)
          rw [← es10] at hw
          refine lv_bipush (v := 60) hx hb dX12_row_48 (by decide) ?_
          refine lv_iload_n hx hb dX12_row_50 rfl (lv_at hl 1 rfl) ?_
          refine lv_imul hx hb dX12_row_51 ?_
          refine lv_topi (fun x11 e12 => ?_)
          replace hf := bnd_nm hf e12
          refine lv_istore (lv' := [(4, .int x11), (0, .ref (xq X 0)), (1, .int a1), (2, .int a2), (3, .int a3)]) hx hb dX12_row_52 hl (by decide) rfl (fun ls hl => ?_)
          exact tX12_row_54 C hr n st9 a1 x11 _ _ _ hw (lv_sub hl [1, 2, 0] rfl) hf
        · replace hf := ite_f hf c4
          refine lv_bipush (v := -14) hx hb dX12_row_28 (by decide) ?_
          exact w_iret C hw hr (so2 hf).1 (so2 hf).2 dX12_row_30
      · replace hf := ite_f hf c3
        refine lv_iconst (v := -1) hx hb dX12_row_22 (by decide) ?_
        exact w_iret C hw hr (so2 hf).1 (so2 hf).2 dX12_row_23
theorem dX12_whyNoPlace_0 : decode cX12_whyNoPlace 0 = .ok (.iload_n 1, 1) := by decide +kernel
theorem dX12_whyNoPlace_1 : decode cX12_whyNoPlace 1 = .ok (.invokestatic 168, 3) := by decide +kernel
theorem dX12_whyNoPlace_4 : decode cX12_whyNoPlace 4 = .ok (.ifCond .ne 5, 3) := by decide +kernel
theorem dX12_whyNoPlace_7 : decode cX12_whyNoPlace 7 = .ok (.iconst (-1), 1) := by decide +kernel
theorem dX12_whyNoPlace_8 : decode cX12_whyNoPlace 8 = .ok (.ireturn, 1) := by decide +kernel
theorem dX12_whyNoPlace_9 : decode cX12_whyNoPlace 9 = .ok (.aload_n 0, 1) := by decide +kernel
theorem dX12_whyNoPlace_10 : decode cX12_whyNoPlace 10 = .ok (.getfield 127, 3) := by decide +kernel
theorem dX12_whyNoPlace_13 : decode cX12_whyNoPlace 13 = .ok (.iload_n 1, 1) := by decide +kernel
theorem dX12_whyNoPlace_14 : decode cX12_whyNoPlace 14 = .ok (.iaload, 1) := by decide +kernel
theorem dX12_whyNoPlace_15 : decode cX12_whyNoPlace 15 = .ok (.iconst (-1), 1) := by decide +kernel
theorem dX12_whyNoPlace_16 : decode cX12_whyNoPlace 16 = .ok (.if_icmp .ne 6, 3) := by decide +kernel
theorem dX12_whyNoPlace_19 : decode cX12_whyNoPlace 19 = .ok (.bipush (-11), 2) := by decide +kernel
theorem dX12_whyNoPlace_21 : decode cX12_whyNoPlace 21 = .ok (.ireturn, 1) := by decide +kernel
theorem dX12_whyNoPlace_22 : decode cX12_whyNoPlace 22 = .ok (.aload_n 0, 1) := by decide +kernel
theorem dX12_whyNoPlace_23 : decode cX12_whyNoPlace 23 = .ok (.getfield 127, 3) := by decide +kernel
theorem dX12_whyNoPlace_26 : decode cX12_whyNoPlace 26 = .ok (.iload_n 1, 1) := by decide +kernel
theorem dX12_whyNoPlace_27 : decode cX12_whyNoPlace 27 = .ok (.iaload, 1) := by decide +kernel
theorem dX12_whyNoPlace_28 : decode cX12_whyNoPlace 28 = .ok (.ifCond .lt 6, 3) := by decide +kernel
theorem dX12_whyNoPlace_31 : decode cX12_whyNoPlace 31 = .ok (.bipush (-12), 2) := by decide +kernel
theorem dX12_whyNoPlace_33 : decode cX12_whyNoPlace 33 = .ok (.ireturn, 1) := by decide +kernel
theorem dX12_whyNoPlace_34 : decode cX12_whyNoPlace 34 = .ok (.iload_n 2, 1) := by decide +kernel
theorem dX12_whyNoPlace_35 : decode cX12_whyNoPlace 35 = .ok (.iconst 0, 1) := by decide +kernel
theorem dX12_whyNoPlace_36 : decode cX12_whyNoPlace 36 = .ok (.aload_n 0, 1) := by decide +kernel
theorem dX12_whyNoPlace_37 : decode cX12_whyNoPlace 37 = .ok (.getfield 130, 3) := by decide +kernel
theorem dX12_whyNoPlace_40 : decode cX12_whyNoPlace 40 = .ok (.iload_n 1, 1) := by decide +kernel
theorem dX12_whyNoPlace_41 : decode cX12_whyNoPlace 41 = .ok (.iaload, 1) := by decide +kernel
theorem dX12_whyNoPlace_42 : decode cX12_whyNoPlace 42 = .ok (.iconst 1, 1) := by decide +kernel
theorem dX12_whyNoPlace_43 : decode cX12_whyNoPlace 43 = .ok (.isub, 1) := by decide +kernel
theorem dX12_whyNoPlace_44 : decode cX12_whyNoPlace 44 = .ok (.invokestatic 147, 3) := by decide +kernel
theorem dX12_whyNoPlace_47 : decode cX12_whyNoPlace 47 = .ok (.ifCond .eq 7, 3) := by decide +kernel
theorem dX12_whyNoPlace_50 : decode cX12_whyNoPlace 50 = .ok (.iconst 0, 1) := by decide +kernel
theorem dX12_whyNoPlace_51 : decode cX12_whyNoPlace 51 = .ok (.goto 5, 3) := by decide +kernel
theorem dX12_whyNoPlace_54 : decode cX12_whyNoPlace 54 = .ok (.bipush (-13), 2) := by decide +kernel
theorem dX12_whyNoPlace_56 : decode cX12_whyNoPlace 56 = .ok (.ireturn, 1) := by decide +kernel
theorem ok_yX12_whyNoPlace : yOk yX12_whyNoPlace 2 := ⟨by decide +kernel, by decide +kernel, by decide +kernel⟩
def fX12_whyNoPlace (st : St) (a1 : Int32) (a2 : Int32) : Option (Int32) := if bI (fX12_isShelf a1) = 0 then (some (-1 : Int32)) else (gd (inB a1 6) (if gI st 39 a1.toNatClampNeg = (-1 : Int32) then (some (-11 : Int32)) else (gd (inB a1 6) (if gI st 39 a1.toNatClampNeg < 0 then (gd (inB a1 6) (if bI (fX12_in a2 (0 : Int32) ((gI st 40 a1.toNatClampNeg) - (1 : Int32))) = 0 then (some (-13 : Int32)) else (some (0 : Int32)))) else (some (-12 : Int32))))))
set_option maxHeartbeats 4000000 in
theorem zX12_whyNoPlace (l : Launch) (X : WX) (st : St) (a1 : Int32) (a2 : Int32) (R : Int32) (hf : fX12_whyNoPlace st a1 a2 = some R) : CtI l yX12_whyNoPlace cX12_whyNoPlace 3 .int ({ frames := 2, cells := 0, slots := 0, locals := 42 }) EM 43 X [.ref (xq X 0), .int a1, .int a2] st R st := by
  refine ct_in (own := RX12) (by decide +kernel) rfl (Nat.le_of_ble_eq_true rfl) (fun p e s m below meth c C hr hw ls hl => ?_)
  obtain ⟨hx, hb, hml, hown, hts⟩ := id C.1
  have hl : lv_has ls 3 [(0, .ref (xq X 0)), (1, .int a1), (2, .int a2)] := hl
  unfold fX12_whyNoPlace at hf
  refine lv_iload_n hx hb dX12_whyNoPlace_0 rfl (lv_at hl 1 rfl) ?_
  refine w_goI hw (w_runS (rest := []) C hw (zX12_isShelf _ _ st a1) km_X12_168 kt_yX12_isShelf kz_X12 kc_X12_isShelf ok_yX12_isShelf ⟨Nat.le_of_ble_eq_true rfl, Nat.le_of_ble_eq_true rfl⟩ rfl rfl rfl rfl hl.1 (Nat.le_of_ble_eq_true rfl) dX12_whyNoPlace_1 ⟨Nat.zero_le _, Nat.zero_le _⟩) (fun H locs hw => ?_)
  refine lv_if_ne (tgt := 9) hx hb dX12_whyNoPlace_4 (by decide) (fun c1 => ?_) (fun c1 => ?_)
  · replace hf := ite_f hf c1
    refine lv_aload_n hx hb dX12_whyNoPlace_9 rfl (lv_at hl 0 rfl) ?_
    refine w_get (T := TX12) C hw (by decide) 54 kf_X12_127 (EM_0 X _ _) rfl inA12 (by decide) rfl dX12_whyNoPlace_10 ?_
    refine lv_iload_n hx hb dX12_whyNoPlace_13 rfl (lv_at hl 1 rfl) ?_
    obtain ⟨h2, hf⟩ := gd_some hf
    refine w_iald C hw (by decide) (EM_39 X _ _) h2 rfl dX12_whyNoPlace_14 ?_
    refine lv_iconst (v := -1) hx hb dX12_whyNoPlace_15 (by decide) ?_
    refine lv_icmp_ne (tgt := 22) hx hb dX12_whyNoPlace_16 (by decide) (fun c3 => ?_) (fun c3 => ?_)
    · replace hf := ite_f hf c3
      refine lv_aload_n hx hb dX12_whyNoPlace_22 rfl (lv_at hl 0 rfl) ?_
      refine w_get (T := TX12) C hw (by decide) 54 kf_X12_127 (EM_0 X _ _) rfl inA12 (by decide) rfl dX12_whyNoPlace_23 ?_
      refine lv_iload_n hx hb dX12_whyNoPlace_26 rfl (lv_at hl 1 rfl) ?_
      obtain ⟨h4, hf⟩ := gd_some hf
      refine w_iald C hw (by decide) (EM_39 X _ _) h4 rfl dX12_whyNoPlace_27 ?_
      refine lv_if_lt (tgt := 34) hx hb dX12_whyNoPlace_28 (by decide) (fun c5 => ?_) (fun c5 => ?_)
      · replace hf := ite_t hf c5
        refine lv_iload_n hx hb dX12_whyNoPlace_34 rfl (lv_at hl 2 rfl) ?_
        refine lv_iconst (v := 0) hx hb dX12_whyNoPlace_35 (by decide) ?_
        refine lv_aload_n hx hb dX12_whyNoPlace_36 rfl (lv_at hl 0 rfl) ?_
        refine w_get (T := TX12) C hw (by decide) 55 kf_X12_130 (EM_0 X _ _) rfl inA12 (by decide) rfl dX12_whyNoPlace_37 ?_
        refine lv_iload_n hx hb dX12_whyNoPlace_40 rfl (lv_at hl 1 rfl) ?_
        obtain ⟨h6, hf⟩ := gd_some hf
        refine w_iald C hw (by decide) (EM_40 X _ _) h6 rfl dX12_whyNoPlace_41 ?_
        refine lv_iconst (v := 1) hx hb dX12_whyNoPlace_42 (by decide) ?_
        refine lv_isub hx hb dX12_whyNoPlace_43 ?_
        refine w_goI hw (w_runS (rest := []) C hw (zX12_in _ _ st a2 (0 : Int32) ((gI st 40 a1.toNatClampNeg) - (1 : Int32))) km_X12_147 kt_yX12_in kz_X12 kc_X12_in ok_yX12_in ⟨Nat.le_of_ble_eq_true rfl, Nat.le_of_ble_eq_true rfl⟩ rfl rfl rfl rfl hl.1 (Nat.le_of_ble_eq_true rfl) dX12_whyNoPlace_44 ⟨Nat.zero_le _, Nat.zero_le _⟩) (fun H locs hw => ?_)
        refine lv_if_eq (tgt := 54) hx hb dX12_whyNoPlace_47 (by decide) (fun c7 => ?_) (fun c7 => ?_)
        · replace hf := ite_t hf c7
          refine lv_bipush (v := -13) hx hb dX12_whyNoPlace_54 (by decide) ?_
          exact w_iret C hw hr (Option.some.inj hf) rfl dX12_whyNoPlace_56
        · replace hf := ite_f hf c7
          refine lv_iconst (v := 0) hx hb dX12_whyNoPlace_50 (by decide) ?_
          refine lv_goto (tgt := 56) hx hb dX12_whyNoPlace_51 (by decide) ?_
          exact w_iret C hw hr (Option.some.inj hf) rfl dX12_whyNoPlace_56
      · replace hf := ite_f hf c5
        refine lv_bipush (v := -12) hx hb dX12_whyNoPlace_31 (by decide) ?_
        exact w_iret C hw hr (Option.some.inj hf) rfl dX12_whyNoPlace_33
    · replace hf := ite_t hf c3
      refine lv_bipush (v := -11) hx hb dX12_whyNoPlace_19 (by decide) ?_
      exact w_iret C hw hr (Option.some.inj hf) rfl dX12_whyNoPlace_21
  · replace hf := ite_t hf c1
    refine lv_iconst (v := -1) hx hb dX12_whyNoPlace_7 (by decide) ?_
    exact w_iret C hw hr (Option.some.inj hf) rfl dX12_whyNoPlace_8
theorem dX12_put_0 : decode cX12_put 0 = .ok (.aload_n 0, 1) := by decide +kernel
theorem dX12_put_1 : decode cX12_put 1 = .ok (.iload_n 1, 1) := by decide +kernel
theorem dX12_put_2 : decode cX12_put 2 = .ok (.iload_n 2, 1) := by decide +kernel
theorem dX12_put_3 : decode cX12_put 3 = .ok (.invokevirtual 454, 3) := by decide +kernel
theorem dX12_put_6 : decode cX12_put 6 = .ok (.istore 5, 2) := by decide +kernel
theorem dX12_put_8 : decode cX12_put 8 = .ok (.iload 5, 2) := by decide +kernel
theorem dX12_put_10 : decode cX12_put 10 = .ok (.ifCond .ge 6, 3) := by decide +kernel
theorem dX12_put_13 : decode cX12_put 13 = .ok (.iload 5, 2) := by decide +kernel
theorem dX12_put_15 : decode cX12_put 15 = .ok (.ireturn, 1) := by decide +kernel
theorem dX12_put_16 : decode cX12_put 16 = .ok (.bipush (-2), 2) := by decide +kernel
theorem dX12_put_18 : decode cX12_put 18 = .ok (.aload_n 0, 1) := by decide +kernel
theorem dX12_put_19 : decode cX12_put 19 = .ok (.getfield 127, 3) := by decide +kernel
theorem dX12_put_22 : decode cX12_put 22 = .ok (.iload_n 1, 1) := by decide +kernel
theorem dX12_put_23 : decode cX12_put 23 = .ok (.iaload, 1) := by decide +kernel
theorem dX12_put_24 : decode cX12_put 24 = .ok (.isub, 1) := by decide +kernel
theorem dX12_put_25 : decode cX12_put 25 = .ok (.istore 6, 2) := by decide +kernel
theorem dX12_put_27 : decode cX12_put 27 = .ok (.aload_n 0, 1) := by decide +kernel
theorem dX12_put_28 : decode cX12_put 28 = .ok (.getfield 133, 3) := by decide +kernel
theorem dX12_put_31 : decode cX12_put 31 = .ok (.bipush 60, 2) := by decide +kernel
theorem dX12_put_33 : decode cX12_put 33 = .ok (.iload_n 1, 1) := by decide +kernel
theorem dX12_put_34 : decode cX12_put 34 = .ok (.imul, 1) := by decide +kernel
theorem dX12_put_35 : decode cX12_put 35 = .ok (.iload_n 2, 1) := by decide +kernel
theorem dX12_put_36 : decode cX12_put 36 = .ok (.iadd, 1) := by decide +kernel
theorem dX12_put_37 : decode cX12_put 37 = .ok (.iload 6, 2) := by decide +kernel
theorem dX12_put_39 : decode cX12_put 39 = .ok (.ifCond .ne 10, 3) := by decide +kernel
theorem dX12_put_42 : decode cX12_put 42 = .ok (.lload_n 3, 1) := by decide +kernel
theorem dX12_put_43 : decode cX12_put 43 = .ok (.l2i, 1) := by decide +kernel
theorem dX12_put_44 : decode cX12_put 44 = .ok (.i2b, 1) := by decide +kernel
theorem dX12_put_45 : decode cX12_put 45 = .ok (.i2l, 1) := by decide +kernel
theorem dX12_put_46 : decode cX12_put 46 = .ok (.goto 49, 3) := by decide +kernel
theorem dX12_put_49 : decode cX12_put 49 = .ok (.iload 6, 2) := by decide +kernel
theorem dX12_put_51 : decode cX12_put 51 = .ok (.iconst 1, 1) := by decide +kernel
theorem dX12_put_52 : decode cX12_put 52 = .ok (.if_icmp .ne 10, 3) := by decide +kernel
theorem dX12_put_55 : decode cX12_put 55 = .ok (.lload_n 3, 1) := by decide +kernel
theorem dX12_put_56 : decode cX12_put 56 = .ok (.l2i, 1) := by decide +kernel
theorem dX12_put_57 : decode cX12_put 57 = .ok (.i2s, 1) := by decide +kernel
theorem dX12_put_58 : decode cX12_put 58 = .ok (.i2l, 1) := by decide +kernel
theorem dX12_put_59 : decode cX12_put 59 = .ok (.goto 36, 3) := by decide +kernel
theorem dX12_put_62 : decode cX12_put 62 = .ok (.iload 6, 2) := by decide +kernel
theorem dX12_put_64 : decode cX12_put 64 = .ok (.iconst 2, 1) := by decide +kernel
theorem dX12_put_65 : decode cX12_put 65 = .ok (.if_icmp .ne 9, 3) := by decide +kernel
theorem dX12_put_68 : decode cX12_put 68 = .ok (.lload_n 3, 1) := by decide +kernel
theorem dX12_put_69 : decode cX12_put 69 = .ok (.l2i, 1) := by decide +kernel
theorem dX12_put_70 : decode cX12_put 70 = .ok (.i2l, 1) := by decide +kernel
theorem dX12_put_71 : decode cX12_put 71 = .ok (.goto 24, 3) := by decide +kernel
theorem dX12_put_74 : decode cX12_put 74 = .ok (.iload 6, 2) := by decide +kernel
theorem dX12_put_76 : decode cX12_put 76 = .ok (.iconst 3, 1) := by decide +kernel
theorem dX12_put_77 : decode cX12_put 77 = .ok (.if_icmp .ne 7, 3) := by decide +kernel
theorem dX12_put_80 : decode cX12_put 80 = .ok (.lload_n 3, 1) := by decide +kernel
theorem dX12_put_81 : decode cX12_put 81 = .ok (.goto 14, 3) := by decide +kernel
theorem dX12_put_84 : decode cX12_put 84 = .ok (.lload_n 3, 1) := by decide +kernel
theorem dX12_put_85 : decode cX12_put 85 = .ok (.lconst 0, 1) := by decide +kernel
theorem dX12_put_86 : decode cX12_put 86 = .ok (.lcmp, 1) := by decide +kernel
theorem dX12_put_87 : decode cX12_put 87 = .ok (.ifCond .eq 7, 3) := by decide +kernel
theorem dX12_put_90 : decode cX12_put 90 = .ok (.lconst 1, 1) := by decide +kernel
theorem dX12_put_91 : decode cX12_put 91 = .ok (.goto 4, 3) := by decide +kernel
theorem dX12_put_94 : decode cX12_put 94 = .ok (.lconst 0, 1) := by decide +kernel
theorem dX12_put_95 : decode cX12_put 95 = .ok (.lastore, 1) := by decide +kernel
theorem dX12_put_96 : decode cX12_put 96 = .ok (.iconst 1, 1) := by decide +kernel
theorem dX12_put_97 : decode cX12_put 97 = .ok (.ireturn, 1) := by decide +kernel
theorem ok_yX12_put : yOk yX12_put 3 := ⟨by decide +kernel, by decide +kernel, by decide +kernel⟩
def fX12_put (st : St) (a1 : Int32) (a2 : Int32) (a3 : Int64) : Option (Int32 × St) := (fX12_whyNoPlace st a1 a2).bind (fun r1 => if 0 ≤ r1 then (gd (inB a1 6) (bnd ((-2 : Int32) - (gI st 39 a1.toNatClampNeg)) (fun x5 => if x5 = 0 then (gd (inB (((60 : Int32) * a1) + a2) 360) (bnd (sL st 41 (((60 : Int32) * a1) + a2).toNatClampNeg a3.toInt32.toInt8.toInt32.toInt64) (fun st28 => some ((1 : Int32), st28)))) else (if x5 = (1 : Int32) then (gd (inB (((60 : Int32) * a1) + a2) 360) (bnd (sL st 41 (((60 : Int32) * a1) + a2).toNatClampNeg a3.toInt32.toInt16.toInt32.toInt64) (fun st25 => some ((1 : Int32), st25)))) else (if x5 = (2 : Int32) then (gd (inB (((60 : Int32) * a1) + a2) 360) (bnd (sL st 41 (((60 : Int32) * a1) + a2).toNatClampNeg a3.toInt32.toInt64) (fun st22 => some ((1 : Int32), st22)))) else (if x5 = (3 : Int32) then (gd (inB (((60 : Int32) * a1) + a2) 360) (bnd (sL st 41 (((60 : Int32) * a1) + a2).toNatClampNeg a3) (fun st19 => some ((1 : Int32), st19)))) else (if lg_cmp a3 (0 : Int64) = 0 then (gd (inB (((60 : Int32) * a1) + a2) 360) (bnd (sL st 41 (((60 : Int32) * a1) + a2).toNatClampNeg (0 : Int64)) (fun st13 => some ((1 : Int32), st13)))) else (gd (inB (((60 : Int32) * a1) + a2) 360) (bnd (sL st 41 (((60 : Int32) * a1) + a2).toNatClampNeg (1 : Int64)) (fun st16 => some ((1 : Int32), st16))))))))))) else (some (r1, st)))
set_option maxHeartbeats 4000000 in
theorem zX12_put (l : Launch) (X : WX) (st : St) (a1 : Int32) (a2 : Int32) (a3 : Int64) (R : Int32 × St) (hf : fX12_put st a1 a2 a3 = some R) : CtI l yX12_put cX12_put 7 .int ({ frames := 3, cells := 0, slots := 0, locals := 64 }) EM 43 X [.ref (xq X 0), .int a1, .int a2, .long a3] st R.1 R.2 := by
  refine ct_in (own := RX12) (by decide +kernel) rfl (Nat.le_of_ble_eq_true rfl) (fun p e s m below meth c C hr hw ls hl => ?_)
  obtain ⟨hx, hb, hml, hown, hts⟩ := id C.1
  have hl : lv_has ls 7 [(0, .ref (xq X 0)), (1, .int a1), (2, .int a2), (3, .long a3)] := hl
  unfold fX12_put at hf
  refine lv_aload_n hx hb dX12_put_0 rfl (lv_at hl 0 rfl) ?_
  refine lv_iload_n hx hb dX12_put_1 rfl (lv_at hl 1 rfl) ?_
  refine lv_iload_n hx hb dX12_put_2 rfl (lv_at hl 2 rfl) ?_
  obtain ⟨r1, k2, hf⟩ := bd_some hf
  refine w_goI hw (w_runV (rest := []) C hw (zX12_whyNoPlace _ _ st a1 a2 r1 k2) (by decide) (EM_0 X _ _) rfl km_X12_454 ki_yX12_whyNoPlace kv_X12_whyNoPlace kz_X12 kc_X12_whyNoPlace rfl ok_yX12_whyNoPlace ⟨Nat.le_of_ble_eq_true rfl, Nat.le_of_ble_eq_true rfl⟩ rfl rfl rfl rfl hl.1 (Nat.le_of_ble_eq_true rfl) dX12_put_3 ⟨Nat.zero_le _, Nat.zero_le _⟩) (fun H locs hw => ?_)
  refine lv_istore (lv' := [(5, .int r1), (0, .ref (xq X 0)), (1, .int a1), (2, .int a2), (3, .long a3)]) hx hb dX12_put_6 hl (by decide) rfl (fun ls hl => ?_)
  refine lv_iload hx hb dX12_put_8 (lv_at hl 0 rfl) ?_
  refine lv_if_ge (tgt := 16) hx hb dX12_put_10 (by decide) (fun c3 => ?_) (fun c3 => ?_)
  · replace hf := ite_t hf c3
    refine lv_bipush (v := -2) hx hb dX12_put_16 (by decide) ?_
    refine lv_aload_n hx hb dX12_put_18 rfl (lv_at hl 1 rfl) ?_
    refine w_get (T := TX12) C hw (by decide) 54 kf_X12_127 (EM_0 X _ _) rfl inA12 (by decide) rfl dX12_put_19 ?_
    refine lv_iload_n hx hb dX12_put_22 rfl (lv_at hl 2 rfl) ?_
    obtain ⟨h4, hf⟩ := gd_some hf
    refine w_iald C hw (by decide) (EM_39 X _ _) h4 rfl dX12_put_23 ?_
    refine lv_isub hx hb dX12_put_24 ?_
    refine lv_topi (fun x5 e6 => ?_)
    replace hf := bnd_nm hf e6
    refine lv_istore (lv' := [(6, .int x5), (5, .int r1), (0, .ref (xq X 0)), (1, .int a1), (2, .int a2), (3, .long a3)]) hx hb dX12_put_25 hl (by decide) rfl (fun ls hl => ?_)
    refine lv_aload_n hx hb dX12_put_27 rfl (lv_at hl 2 rfl) ?_
    refine w_get (T := TX12) C hw (by decide) 56 kf_X12_133 (EM_0 X _ _) rfl inA12 (by decide) rfl dX12_put_28 ?_
    refine lv_bipush (v := 60) hx hb dX12_put_31 (by decide) ?_
    refine lv_iload_n hx hb dX12_put_33 rfl (lv_at hl 3 rfl) ?_
    refine lv_imul hx hb dX12_put_34 ?_
    refine lv_iload_n hx hb dX12_put_35 rfl (lv_at hl 4 rfl) ?_
    refine lv_iadd hx hb dX12_put_36 ?_
    refine lv_iload hx hb dX12_put_37 (lv_at hl 0 rfl) ?_
    refine lv_if_ne (tgt := 49) hx hb dX12_put_39 (by decide) (fun c7 => ?_) (fun c7 => ?_)
    · replace hf := ite_f hf c7
      refine lv_iload hx hb dX12_put_49 (lv_at hl 0 rfl) ?_
      refine lv_iconst (v := 1) hx hb dX12_put_51 (by decide) ?_
      refine lv_icmp_ne (tgt := 62) hx hb dX12_put_52 (by decide) (fun c8 => ?_) (fun c8 => ?_)
      · replace hf := ite_f hf c8
        refine lv_iload hx hb dX12_put_62 (lv_at hl 0 rfl) ?_
        refine lv_iconst (v := 2) hx hb dX12_put_64 (by decide) ?_
        refine lv_icmp_ne (tgt := 74) hx hb dX12_put_65 (by decide) (fun c9 => ?_) (fun c9 => ?_)
        · replace hf := ite_f hf c9
          refine lv_iload hx hb dX12_put_74 (lv_at hl 0 rfl) ?_
          refine lv_iconst (v := 3) hx hb dX12_put_76 (by decide) ?_
          refine lv_icmp_ne (tgt := 84) hx hb dX12_put_77 (by decide) (fun c10 => ?_) (fun c10 => ?_)
          · replace hf := ite_f hf c10
            refine lv_lload_n hx hb dX12_put_84 rfl (lv_at hl 5 rfl) ?_
            refine lv_lconst (v := 0) hx hb dX12_put_85 (by decide) ?_
            refine W.lcmp hx hb dX12_put_86 ?_
            refine lv_if_eq (tgt := 94) hx hb dX12_put_87 (by decide) (fun c11 => ?_) (fun c11 => ?_)
            · replace hf := ite_t hf c11
              refine lv_lconst (v := 0) hx hb dX12_put_94 (by decide) ?_
              obtain ⟨h12, hf⟩ := gd_some hf
              obtain ⟨st13, es14⟩ : ∃ z : St, z = sL st 41 (((60 : Int32) * a1) + a2).toNatClampNeg (0 : Int64) := ⟨_, rfl⟩
              replace hf := bnd_nm hf es14
              refine w_last C hw (by decide) (fun g9 => EM_41 X _ g9) h12 rfl dX12_put_95 (fun H locs hw => ?_)
              rw [← es14] at hw
              refine lv_iconst (v := 1) hx hb dX12_put_96 (by decide) ?_
              exact w_iret C hw hr (so2 hf).1 (so2 hf).2 dX12_put_97
            · replace hf := ite_f hf c11
              refine lv_lconst (v := 1) hx hb dX12_put_90 (by decide) ?_
              refine lv_goto (tgt := 95) hx hb dX12_put_91 (by decide) ?_
              obtain ⟨h15, hf⟩ := gd_some hf
              obtain ⟨st16, es17⟩ : ∃ z : St, z = sL st 41 (((60 : Int32) * a1) + a2).toNatClampNeg (1 : Int64) := ⟨_, rfl⟩
              replace hf := bnd_nm hf es17
              refine w_last C hw (by decide) (fun g9 => EM_41 X _ g9) h15 rfl dX12_put_95 (fun H locs hw => ?_)
              rw [← es17] at hw
              refine lv_iconst (v := 1) hx hb dX12_put_96 (by decide) ?_
              exact w_iret C hw hr (so2 hf).1 (so2 hf).2 dX12_put_97
          · replace hf := ite_t hf c10
            refine lv_lload_n hx hb dX12_put_80 rfl (lv_at hl 5 rfl) ?_
            refine lv_goto (tgt := 95) hx hb dX12_put_81 (by decide) ?_
            obtain ⟨h18, hf⟩ := gd_some hf
            obtain ⟨st19, es20⟩ : ∃ z : St, z = sL st 41 (((60 : Int32) * a1) + a2).toNatClampNeg a3 := ⟨_, rfl⟩
            replace hf := bnd_nm hf es20
            refine w_last C hw (by decide) (fun g9 => EM_41 X _ g9) h18 rfl dX12_put_95 (fun H locs hw => ?_)
            rw [← es20] at hw
            refine lv_iconst (v := 1) hx hb dX12_put_96 (by decide) ?_
            exact w_iret C hw hr (so2 hf).1 (so2 hf).2 dX12_put_97
        · replace hf := ite_t hf c9
          refine lv_lload_n hx hb dX12_put_68 rfl (lv_at hl 5 rfl) ?_
          refine lv_l2i (v := a3.toInt32) hx hb dX12_put_69 rfl ?_
          refine lv_i2l (v := a3.toInt32.toInt64) hx hb dX12_put_70 rfl ?_
          refine lv_goto (tgt := 95) hx hb dX12_put_71 (by decide) ?_
          obtain ⟨h21, hf⟩ := gd_some hf
          obtain ⟨st22, es23⟩ : ∃ z : St, z = sL st 41 (((60 : Int32) * a1) + a2).toNatClampNeg a3.toInt32.toInt64 := ⟨_, rfl⟩
          replace hf := bnd_nm hf es23
          refine w_last C hw (by decide) (fun g9 => EM_41 X _ g9) h21 rfl dX12_put_95 (fun H locs hw => ?_)
          rw [← es23] at hw
          refine lv_iconst (v := 1) hx hb dX12_put_96 (by decide) ?_
          exact w_iret C hw hr (so2 hf).1 (so2 hf).2 dX12_put_97
      · replace hf := ite_t hf c8
        refine lv_lload_n hx hb dX12_put_55 rfl (lv_at hl 5 rfl) ?_
        refine lv_l2i (v := a3.toInt32) hx hb dX12_put_56 rfl ?_
        refine lv_i2s (v := a3.toInt32.toInt16.toInt32) hx hb dX12_put_57 rfl ?_
        refine lv_i2l (v := a3.toInt32.toInt16.toInt32.toInt64) hx hb dX12_put_58 rfl ?_
        refine lv_goto (tgt := 95) hx hb dX12_put_59 (by decide) ?_
        obtain ⟨h24, hf⟩ := gd_some hf
        obtain ⟨st25, es26⟩ : ∃ z : St, z = sL st 41 (((60 : Int32) * a1) + a2).toNatClampNeg a3.toInt32.toInt16.toInt32.toInt64 := ⟨_, rfl⟩
        replace hf := bnd_nm hf es26
        refine w_last C hw (by decide) (fun g9 => EM_41 X _ g9) h24 rfl dX12_put_95 (fun H locs hw => ?_)
        rw [← es26] at hw
        refine lv_iconst (v := 1) hx hb dX12_put_96 (by decide) ?_
        exact w_iret C hw hr (so2 hf).1 (so2 hf).2 dX12_put_97
    · replace hf := ite_t hf c7
      refine lv_lload_n hx hb dX12_put_42 rfl (lv_at hl 5 rfl) ?_
      refine lv_l2i (v := a3.toInt32) hx hb dX12_put_43 rfl ?_
      refine lv_i2b (v := a3.toInt32.toInt8.toInt32) hx hb dX12_put_44 rfl ?_
      refine lv_i2l (v := a3.toInt32.toInt8.toInt32.toInt64) hx hb dX12_put_45 rfl ?_
      refine lv_goto (tgt := 95) hx hb dX12_put_46 (by decide) ?_
      obtain ⟨h27, hf⟩ := gd_some hf
      obtain ⟨st28, es29⟩ : ∃ z : St, z = sL st 41 (((60 : Int32) * a1) + a2).toNatClampNeg a3.toInt32.toInt8.toInt32.toInt64 := ⟨_, rfl⟩
      replace hf := bnd_nm hf es29
      refine w_last C hw (by decide) (fun g9 => EM_41 X _ g9) h27 rfl dX12_put_95 (fun H locs hw => ?_)
      rw [← es29] at hw
      refine lv_iconst (v := 1) hx hb dX12_put_96 (by decide) ?_
      exact w_iret C hw hr (so2 hf).1 (so2 hf).2 dX12_put_97
  · replace hf := ite_f hf c3
    refine lv_iload hx hb dX12_put_13 (lv_at hl 0 rfl) ?_
    exact w_iret C hw hr (so2 hf).1 (so2 hf).2 dX12_put_15
theorem dX12_element_0 : decode cX12_element 0 = .ok (.aload_n 0, 1) := by decide +kernel
theorem dX12_element_1 : decode cX12_element 1 = .ok (.iload_n 1, 1) := by decide +kernel
theorem dX12_element_2 : decode cX12_element 2 = .ok (.iload_n 2, 1) := by decide +kernel
theorem dX12_element_3 : decode cX12_element 3 = .ok (.invokevirtual 454, 3) := by decide +kernel
theorem dX12_element_6 : decode cX12_element 6 = .ok (.ifCond .ge 9, 3) := by decide +kernel
theorem dX12_element_9 : decode cX12_element 9 = .ok (.ldc2_w 459, 3) := by decide +kernel
theorem dX12_element_12 : decode cX12_element 12 = .ok (.goto 14, 3) := by decide +kernel
theorem dX12_element_15 : decode cX12_element 15 = .ok (.aload_n 0, 1) := by decide +kernel
theorem dX12_element_16 : decode cX12_element 16 = .ok (.getfield 133, 3) := by decide +kernel
theorem dX12_element_19 : decode cX12_element 19 = .ok (.bipush 60, 2) := by decide +kernel
theorem dX12_element_21 : decode cX12_element 21 = .ok (.iload_n 1, 1) := by decide +kernel
theorem dX12_element_22 : decode cX12_element 22 = .ok (.imul, 1) := by decide +kernel
theorem dX12_element_23 : decode cX12_element 23 = .ok (.iload_n 2, 1) := by decide +kernel
theorem dX12_element_24 : decode cX12_element 24 = .ok (.iadd, 1) := by decide +kernel
theorem dX12_element_25 : decode cX12_element 25 = .ok (.laload, 1) := by decide +kernel
theorem dX12_element_26 : decode cX12_element 26 = .ok (.lreturn, 1) := by decide +kernel
theorem ok_yX12_element : yOk yX12_element 2 := ⟨by decide +kernel, by decide +kernel, by decide +kernel⟩
def fX12_element (st : St) (a1 : Int32) (a2 : Int32) : Option (Int64) := (fX12_whyNoPlace st a1 a2).bind (fun r1 => if 0 ≤ r1 then (gd (inB (((60 : Int32) * a1) + a2) 360) (some (gL st 41 (((60 : Int32) * a1) + a2).toNatClampNeg))) else (some (-9223372036854775808 : Int64)))
set_option maxHeartbeats 4000000 in
theorem zX12_element (l : Launch) (X : WX) (st : St) (a1 : Int32) (a2 : Int32) (R : Int64) (hf : fX12_element st a1 a2 = some R) : CtL l yX12_element cX12_element 3 ({ frames := 3, cells := 0, slots := 0, locals := 64 }) EM 43 X [.ref (xq X 0), .int a1, .int a2] st R st := by
  refine ct_in (own := RX12) (by decide +kernel) rfl (Nat.le_of_ble_eq_true rfl) (fun p e s m below meth c C hr hw ls hl => ?_)
  obtain ⟨hx, hb, hml, hown, hts⟩ := id C.1
  have hl : lv_has ls 3 [(0, .ref (xq X 0)), (1, .int a1), (2, .int a2)] := hl
  unfold fX12_element at hf
  refine lv_aload_n hx hb dX12_element_0 rfl (lv_at hl 0 rfl) ?_
  refine lv_iload_n hx hb dX12_element_1 rfl (lv_at hl 1 rfl) ?_
  refine lv_iload_n hx hb dX12_element_2 rfl (lv_at hl 2 rfl) ?_
  obtain ⟨r1, k2, hf⟩ := bd_some hf
  refine w_goI hw (w_runV (rest := []) C hw (zX12_whyNoPlace _ _ st a1 a2 r1 k2) (by decide) (EM_0 X _ _) rfl km_X12_454 ki_yX12_whyNoPlace kv_X12_whyNoPlace kz_X12 kc_X12_whyNoPlace rfl ok_yX12_whyNoPlace ⟨Nat.le_of_ble_eq_true rfl, Nat.le_of_ble_eq_true rfl⟩ rfl rfl rfl rfl hl.1 (Nat.le_of_ble_eq_true rfl) dX12_element_3 ⟨Nat.zero_le _, Nat.zero_le _⟩) (fun H locs hw => ?_)
  refine lv_if_ge (tgt := 15) hx hb dX12_element_6 (by decide) (fun c3 => ?_) (fun c3 => ?_)
  · replace hf := ite_t hf c3
    refine lv_aload_n hx hb dX12_element_15 rfl (lv_at hl 0 rfl) ?_
    refine w_get (T := TX12) C hw (by decide) 56 kf_X12_133 (EM_0 X _ _) rfl inA12 (by decide) rfl dX12_element_16 ?_
    refine lv_bipush (v := 60) hx hb dX12_element_19 (by decide) ?_
    refine lv_iload_n hx hb dX12_element_21 rfl (lv_at hl 1 rfl) ?_
    refine lv_imul hx hb dX12_element_22 ?_
    refine lv_iload_n hx hb dX12_element_23 rfl (lv_at hl 2 rfl) ?_
    refine lv_iadd hx hb dX12_element_24 ?_
    obtain ⟨h4, hf⟩ := gd_some hf
    refine w_lald C hw (by decide) (EM_41 X _ _) h4 rfl dX12_element_25 ?_
    exact w_lret C hw hr (Option.some.inj hf) rfl dX12_element_26
  · replace hf := ite_f hf c3
    refine lv_ldc2 (v := -9223372036854775808) hx hb hown (hts _ kn_X12_459) dX12_element_9 ?_
    refine lv_goto (tgt := 26) hx hb dX12_element_12 (by decide) ?_
    exact w_lret C hw hr (Option.some.inj hf) rfl dX12_element_26
theorem dX12_shift_0 : decode cX12_shift 0 = .ok (.iload_n 1, 1) := by decide +kernel
theorem dX12_shift_1 : decode cX12_shift 1 = .ok (.invokestatic 168, 3) := by decide +kernel
theorem dX12_shift_4 : decode cX12_shift 4 = .ok (.ifCond .eq 10, 3) := by decide +kernel
theorem dX12_shift_7 : decode cX12_shift 7 = .ok (.iload_n 3, 1) := by decide +kernel
theorem dX12_shift_8 : decode cX12_shift 8 = .ok (.invokestatic 168, 3) := by decide +kernel
theorem dX12_shift_11 : decode cX12_shift 11 = .ok (.ifCond .ne 5, 3) := by decide +kernel
theorem dX12_shift_14 : decode cX12_shift 14 = .ok (.iconst (-1), 1) := by decide +kernel
theorem dX12_shift_15 : decode cX12_shift 15 = .ok (.ireturn, 1) := by decide +kernel
theorem dX12_shift_16 : decode cX12_shift 16 = .ok (.aload_n 0, 1) := by decide +kernel
theorem dX12_shift_17 : decode cX12_shift 17 = .ok (.getfield 127, 3) := by decide +kernel
theorem dX12_shift_20 : decode cX12_shift 20 = .ok (.iload_n 1, 1) := by decide +kernel
theorem dX12_shift_21 : decode cX12_shift 21 = .ok (.iaload, 1) := by decide +kernel
theorem dX12_shift_22 : decode cX12_shift 22 = .ok (.iconst (-1), 1) := by decide +kernel
theorem dX12_shift_23 : decode cX12_shift 23 = .ok (.if_icmp .eq 13, 3) := by decide +kernel
theorem dX12_shift_26 : decode cX12_shift 26 = .ok (.aload_n 0, 1) := by decide +kernel
theorem dX12_shift_27 : decode cX12_shift 27 = .ok (.getfield 127, 3) := by decide +kernel
theorem dX12_shift_30 : decode cX12_shift 30 = .ok (.iload_n 3, 1) := by decide +kernel
theorem dX12_shift_31 : decode cX12_shift 31 = .ok (.iaload, 1) := by decide +kernel
theorem dX12_shift_32 : decode cX12_shift 32 = .ok (.iconst (-1), 1) := by decide +kernel
theorem dX12_shift_33 : decode cX12_shift 33 = .ok (.if_icmp .ne 6, 3) := by decide +kernel
theorem dX12_shift_36 : decode cX12_shift 36 = .ok (.bipush (-11), 2) := by decide +kernel
theorem dX12_shift_38 : decode cX12_shift 38 = .ok (.ireturn, 1) := by decide +kernel
theorem dX12_shift_39 : decode cX12_shift 39 = .ok (.aload_n 0, 1) := by decide +kernel
theorem dX12_shift_40 : decode cX12_shift 40 = .ok (.getfield 127, 3) := by decide +kernel
theorem dX12_shift_43 : decode cX12_shift 43 = .ok (.iload_n 1, 1) := by decide +kernel
theorem dX12_shift_44 : decode cX12_shift 44 = .ok (.iaload, 1) := by decide +kernel
theorem dX12_shift_45 : decode cX12_shift 45 = .ok (.ifCond .ge 18, 3) := by decide +kernel
theorem dX12_shift_48 : decode cX12_shift 48 = .ok (.aload_n 0, 1) := by decide +kernel
theorem dX12_shift_49 : decode cX12_shift 49 = .ok (.getfield 127, 3) := by decide +kernel
theorem dX12_shift_52 : decode cX12_shift 52 = .ok (.iload_n 1, 1) := by decide +kernel
theorem dX12_shift_53 : decode cX12_shift 53 = .ok (.iaload, 1) := by decide +kernel
theorem dX12_shift_54 : decode cX12_shift 54 = .ok (.aload_n 0, 1) := by decide +kernel
theorem dX12_shift_55 : decode cX12_shift 55 = .ok (.getfield 127, 3) := by decide +kernel
theorem dX12_shift_58 : decode cX12_shift 58 = .ok (.iload_n 3, 1) := by decide +kernel
theorem dX12_shift_59 : decode cX12_shift 59 = .ok (.iaload, 1) := by decide +kernel
theorem dX12_shift_60 : decode cX12_shift 60 = .ok (.if_icmp .eq 6, 3) := by decide +kernel
theorem dX12_shift_63 : decode cX12_shift 63 = .ok (.bipush (-12), 2) := by decide +kernel
theorem dX12_shift_65 : decode cX12_shift 65 = .ok (.ireturn, 1) := by decide +kernel
theorem dX12_shift_66 : decode cX12_shift 66 = .ok (.iload 5, 2) := by decide +kernel
theorem dX12_shift_68 : decode cX12_shift 68 = .ok (.ifCond .lt 39, 3) := by decide +kernel
theorem dX12_shift_71 : decode cX12_shift 71 = .ok (.iload_n 2, 1) := by decide +kernel
theorem dX12_shift_72 : decode cX12_shift 72 = .ok (.ifCond .lt 35, 3) := by decide +kernel
theorem dX12_shift_75 : decode cX12_shift 75 = .ok (.iload 4, 2) := by decide +kernel
theorem dX12_shift_77 : decode cX12_shift 77 = .ok (.ifCond .lt 30, 3) := by decide +kernel
theorem dX12_shift_80 : decode cX12_shift 80 = .ok (.iload_n 2, 1) := by decide +kernel
theorem dX12_shift_81 : decode cX12_shift 81 = .ok (.aload_n 0, 1) := by decide +kernel
theorem dX12_shift_82 : decode cX12_shift 82 = .ok (.getfield 130, 3) := by decide +kernel
theorem dX12_shift_85 : decode cX12_shift 85 = .ok (.iload_n 1, 1) := by decide +kernel
theorem dX12_shift_86 : decode cX12_shift 86 = .ok (.iaload, 1) := by decide +kernel
theorem dX12_shift_87 : decode cX12_shift 87 = .ok (.iload 5, 2) := by decide +kernel
theorem dX12_shift_89 : decode cX12_shift 89 = .ok (.isub, 1) := by decide +kernel
theorem dX12_shift_90 : decode cX12_shift 90 = .ok (.if_icmp .gt 17, 3) := by decide +kernel
theorem dX12_shift_93 : decode cX12_shift 93 = .ok (.iload 4, 2) := by decide +kernel
theorem dX12_shift_95 : decode cX12_shift 95 = .ok (.aload_n 0, 1) := by decide +kernel
theorem dX12_shift_96 : decode cX12_shift 96 = .ok (.getfield 130, 3) := by decide +kernel
theorem dX12_shift_99 : decode cX12_shift 99 = .ok (.iload_n 3, 1) := by decide +kernel
theorem dX12_shift_100 : decode cX12_shift 100 = .ok (.iaload, 1) := by decide +kernel
theorem dX12_shift_101 : decode cX12_shift 101 = .ok (.iload 5, 2) := by decide +kernel
theorem dX12_shift_103 : decode cX12_shift 103 = .ok (.isub, 1) := by decide +kernel
theorem dX12_shift_104 : decode cX12_shift 104 = .ok (.if_icmp .le 6, 3) := by decide +kernel
theorem dX12_shift_107 : decode cX12_shift 107 = .ok (.bipush (-13), 2) := by decide +kernel
theorem dX12_shift_109 : decode cX12_shift 109 = .ok (.ireturn, 1) := by decide +kernel
theorem dX12_shift_110 : decode cX12_shift 110 = .ok (.iconst 0, 1) := by decide +kernel
theorem dX12_shift_111 : decode cX12_shift 111 = .ok (.istore 6, 2) := by decide +kernel
theorem dX12_shift_113 : decode cX12_shift 113 = .ok (.iload 6, 2) := by decide +kernel
theorem dX12_shift_115 : decode cX12_shift 115 = .ok (.iload 5, 2) := by decide +kernel
theorem dX12_shift_117 : decode cX12_shift 117 = .ok (.if_icmp .ge 30, 3) := by decide +kernel
theorem dX12_shift_120 : decode cX12_shift 120 = .ok (.aload_n 0, 1) := by decide +kernel
theorem dX12_shift_121 : decode cX12_shift 121 = .ok (.getfield 137, 3) := by decide +kernel
theorem dX12_shift_124 : decode cX12_shift 124 = .ok (.iload 6, 2) := by decide +kernel
theorem dX12_shift_126 : decode cX12_shift 126 = .ok (.aload_n 0, 1) := by decide +kernel
theorem dX12_shift_127 : decode cX12_shift 127 = .ok (.getfield 133, 3) := by decide +kernel
theorem dX12_shift_130 : decode cX12_shift 130 = .ok (.bipush 60, 2) := by decide +kernel
theorem dX12_shift_132 : decode cX12_shift 132 = .ok (.iload_n 1, 1) := by decide +kernel
theorem dX12_shift_133 : decode cX12_shift 133 = .ok (.imul, 1) := by decide +kernel
theorem dX12_shift_134 : decode cX12_shift 134 = .ok (.iload_n 2, 1) := by decide +kernel
theorem dX12_shift_135 : decode cX12_shift 135 = .ok (.iadd, 1) := by decide +kernel
theorem dX12_shift_136 : decode cX12_shift 136 = .ok (.iload 6, 2) := by decide +kernel
theorem dX12_shift_138 : decode cX12_shift 138 = .ok (.iadd, 1) := by decide +kernel
theorem dX12_shift_139 : decode cX12_shift 139 = .ok (.laload, 1) := by decide +kernel
theorem dX12_shift_140 : decode cX12_shift 140 = .ok (.lastore, 1) := by decide +kernel
theorem dX12_shift_141 : decode cX12_shift 141 = .ok (.iinc 6 1, 3) := by decide +kernel
theorem dX12_shift_144 : decode cX12_shift 144 = .ok (.goto (-31), 3) := by decide +kernel
theorem dX12_shift_147 : decode cX12_shift 147 = .ok (.iconst 0, 1) := by decide +kernel
theorem dX12_shift_148 : decode cX12_shift 148 = .ok (.istore 6, 2) := by decide +kernel
theorem dX12_shift_150 : decode cX12_shift 150 = .ok (.iload 6, 2) := by decide +kernel
theorem dX12_shift_152 : decode cX12_shift 152 = .ok (.iload 5, 2) := by decide +kernel
theorem dX12_shift_154 : decode cX12_shift 154 = .ok (.if_icmp .ge 31, 3) := by decide +kernel
theorem dX12_shift_157 : decode cX12_shift 157 = .ok (.aload_n 0, 1) := by decide +kernel
theorem dX12_shift_158 : decode cX12_shift 158 = .ok (.getfield 133, 3) := by decide +kernel
theorem dX12_shift_161 : decode cX12_shift 161 = .ok (.bipush 60, 2) := by decide +kernel
theorem dX12_shift_163 : decode cX12_shift 163 = .ok (.iload_n 3, 1) := by decide +kernel
theorem dX12_shift_164 : decode cX12_shift 164 = .ok (.imul, 1) := by decide +kernel
theorem dX12_shift_165 : decode cX12_shift 165 = .ok (.iload 4, 2) := by decide +kernel
theorem dX12_shift_167 : decode cX12_shift 167 = .ok (.iadd, 1) := by decide +kernel
theorem dX12_shift_168 : decode cX12_shift 168 = .ok (.iload 6, 2) := by decide +kernel
theorem dX12_shift_170 : decode cX12_shift 170 = .ok (.iadd, 1) := by decide +kernel
theorem dX12_shift_171 : decode cX12_shift 171 = .ok (.aload_n 0, 1) := by decide +kernel
theorem dX12_shift_172 : decode cX12_shift 172 = .ok (.getfield 137, 3) := by decide +kernel
theorem dX12_shift_175 : decode cX12_shift 175 = .ok (.iload 6, 2) := by decide +kernel
theorem dX12_shift_177 : decode cX12_shift 177 = .ok (.laload, 1) := by decide +kernel
theorem dX12_shift_178 : decode cX12_shift 178 = .ok (.lastore, 1) := by decide +kernel
theorem dX12_shift_179 : decode cX12_shift 179 = .ok (.iinc 6 1, 3) := by decide +kernel
theorem dX12_shift_182 : decode cX12_shift 182 = .ok (.goto (-32), 3) := by decide +kernel
theorem dX12_shift_185 : decode cX12_shift 185 = .ok (.iload 5, 2) := by decide +kernel
theorem dX12_shift_187 : decode cX12_shift 187 = .ok (.ireturn, 1) := by decide +kernel
theorem ok_yX12_shift : yOk yX12_shift 5 := ⟨by decide +kernel, by decide +kernel, by decide +kernel⟩
def fX12_shift_150 (n : Nat) : Nat → St → Int32 → Int32 → Int32 → Int32 → Option (Int32 × St)
  | 0, _, _, _, _, _ => none
  | k + 1, st, v3, v4, v5, v6 => if v5 ≤ v6 then (some (v5, st)) else (gd (inB v6 60) (gd (inB ((((60 : Int32) * v3) + v4) + v6) 360) (bnd (sL st 41 ((((60 : Int32) * v3) + v4) + v6).toNatClampNeg (gL st 42 v6.toNatClampNeg)) (fun st29 => bnd (v6 + (1 : Int32)) (fun x31 => fX12_shift_150 n k st29 v3 v4 v5 x31)))))
set_option maxHeartbeats 4000000 in
theorem tX12_shift_150 {p : Program} {l : Launch} {e : Env} {s : State} {m : MethodId} {args : Array Value} {below : List Frame} {meth : Method} {c : Code} {X : WX} (C : Amb 43 X p s m args meth c cX12_shift 7 RX12) (hr : meth.sig.returnType = some .int) {R : Int32 × St} {n : Nat} : ∀ (k : Nat) (st : St) (v3 : Int32) (v4 : Int32) (v5 : Int32) (v6 : Int32) (H : Heap) (locs : List Loc) (ls : Array Slot), Wd EM 43 X s.heap st H locs → lv_has ls 7 [(0, .ref (xq X 0)), (3, .int v3), (4, .int v4), (5, .int v5), (6, .int v6)] → fX12_shift_150 n k st v3 v4 v5 v6 = some R → W p l e { frames := 2, cells := 0, slots := 0, locals := 42 } s m args below meth c H locs 0 0 (QI EM 43 X R.1 R.2 below args s) (F0 m 150 ls []) := by
  obtain ⟨hx, hb, hml, hown, hts⟩ := id C.1
  intro k
  induction k with
  | zero => intro st v3 v4 v5 v6 H locs ls  hw hl hf; exact absurd (show none = some R from hf) (fun z => by cases z)
  | succ k ih =>
    intro st v3 v4 v5 v6 H locs ls  hw hl hf
    rw [fX12_shift_150] at hf
    refine lv_iload hx hb dX12_shift_150 (lv_at hl 4 rfl) ?_
    refine lv_iload hx hb dX12_shift_152 (lv_at hl 3 rfl) ?_
    refine lv_icmp_ge (tgt := 185) hx hb dX12_shift_154 (by decide) (fun c26 => ?_) (fun c26 => ?_)
    · replace hf := ite_t hf c26
      refine lv_iload hx hb dX12_shift_185 (lv_at hl 3 rfl) ?_
      exact w_iret C hw hr (so2 hf).1 (so2 hf).2 dX12_shift_187
    · replace hf := ite_f hf c26
      refine lv_aload_n hx hb dX12_shift_157 rfl (lv_at hl 0 rfl) ?_
      refine w_get (T := TX12) C hw (by decide) 56 kf_X12_133 (EM_0 X _ _) rfl inA12 (by decide) rfl dX12_shift_158 ?_
      refine lv_bipush (v := 60) hx hb dX12_shift_161 (by decide) ?_
      refine lv_iload_n hx hb dX12_shift_163 rfl (lv_at hl 1 rfl) ?_
      refine lv_imul hx hb dX12_shift_164 ?_
      refine lv_iload hx hb dX12_shift_165 (lv_at hl 2 rfl) ?_
      refine lv_iadd hx hb dX12_shift_167 ?_
      refine lv_iload hx hb dX12_shift_168 (lv_at hl 4 rfl) ?_
      refine lv_iadd hx hb dX12_shift_170 ?_
      refine lv_aload_n hx hb dX12_shift_171 rfl (lv_at hl 0 rfl) ?_
      refine w_get (T := TX12) C hw (by decide) 57 kf_X12_137 (EM_0 X _ _) rfl inA12 (by decide) rfl dX12_shift_172 ?_
      refine lv_iload hx hb dX12_shift_175 (lv_at hl 4 rfl) ?_
      obtain ⟨h27, hf⟩ := gd_some hf
      refine w_lald C hw (by decide) (EM_42 X _ _) h27 rfl dX12_shift_177 ?_
      obtain ⟨h28, hf⟩ := gd_some hf
      obtain ⟨st29, es30⟩ : ∃ z : St, z = sL st 41 ((((60 : Int32) * v3) + v4) + v6).toNatClampNeg (gL st 42 v6.toNatClampNeg) := ⟨_, rfl⟩
      replace hf := bnd_nm hf es30
      refine w_last C hw (by decide) (fun g9 => EM_41 X _ g9) h28 rfl dX12_shift_178 (fun H locs hw => ?_)
      rw [← es30] at hw
      obtain ⟨x31, e32⟩ : ∃ z : Int32, z = v6 + (1 : Int32) := ⟨_, rfl⟩
      replace hf := bnd_nm hf e32
      refine lv_iinc (v := x31) (lv' := [(6, .int x31), (0, .ref (xq X 0)), (3, .int v3), (4, .int v4), (5, .int v5)]) hx hb dX12_shift_179 hl (k := 4) rfl (by rw [e32]; rfl) (by decide) rfl (fun ls hl => ?_)
      refine lv_goto (tgt := 150) hx hb dX12_shift_182 (by decide) ?_
      exact ih st29 v3 v4 v5 x31 _ _ _ hw (lv_sub hl [1, 2, 3, 4, 0] rfl) hf
def fX12_shift_113 (n : Nat) : Nat → St → Int32 → Int32 → Int32 → Int32 → Int32 → Int32 → Option (Int32 × St)
  | 0, _, _, _, _, _, _, _ => none
  | k + 1, st, v1, v2, v3, v4, v5, v6 => if v5 ≤ v6 then (fX12_shift_150 n n st v3 v4 v5 (0 : Int32)) else (gd (inB ((((60 : Int32) * v1) + v2) + v6) 360) (gd (inB v6 60) (bnd (sL st 42 v6.toNatClampNeg (gL st 41 ((((60 : Int32) * v1) + v2) + v6).toNatClampNeg)) (fun st22 => bnd (v6 + (1 : Int32)) (fun x24 => fX12_shift_113 n k st22 v1 v2 v3 v4 v5 x24)))))
set_option maxHeartbeats 4000000 in
theorem tX12_shift_113 {p : Program} {l : Launch} {e : Env} {s : State} {m : MethodId} {args : Array Value} {below : List Frame} {meth : Method} {c : Code} {X : WX} (C : Amb 43 X p s m args meth c cX12_shift 7 RX12) (hr : meth.sig.returnType = some .int) {R : Int32 × St} {n : Nat} : ∀ (k : Nat) (st : St) (v1 : Int32) (v2 : Int32) (v3 : Int32) (v4 : Int32) (v5 : Int32) (v6 : Int32) (H : Heap) (locs : List Loc) (ls : Array Slot), Wd EM 43 X s.heap st H locs → lv_has ls 7 [(0, .ref (xq X 0)), (1, .int v1), (2, .int v2), (3, .int v3), (4, .int v4), (5, .int v5), (6, .int v6)] → fX12_shift_113 n k st v1 v2 v3 v4 v5 v6 = some R → W p l e { frames := 2, cells := 0, slots := 0, locals := 42 } s m args below meth c H locs 0 0 (QI EM 43 X R.1 R.2 below args s) (F0 m 113 ls []) := by
  obtain ⟨hx, hb, hml, hown, hts⟩ := id C.1
  intro k
  induction k with
  | zero => intro st v1 v2 v3 v4 v5 v6 H locs ls  hw hl hf; exact absurd (show none = some R from hf) (fun z => by cases z)
  | succ k ih =>
    intro st v1 v2 v3 v4 v5 v6 H locs ls  hw hl hf
    rw [fX12_shift_113] at hf
    refine lv_iload hx hb dX12_shift_113 (lv_at hl 6 rfl) ?_
    refine lv_iload hx hb dX12_shift_115 (lv_at hl 5 rfl) ?_
    refine lv_icmp_ge (tgt := 147) hx hb dX12_shift_117 (by decide) (fun c19 => ?_) (fun c19 => ?_)
    · replace hf := ite_t hf c19
      refine lv_iconst (v := 0) hx hb dX12_shift_147 (by decide) ?_
      refine lv_istore (lv' := [(6, .int (0 : Int32)), (0, .ref (xq X 0)), (1, .int v1), (2, .int v2), (3, .int v3), (4, .int v4), (5, .int v5)]) hx hb dX12_shift_148 hl (by decide) rfl (fun ls hl => ?_)
      exact tX12_shift_150 C hr n st v3 v4 v5 (0 : Int32) _ _ _ hw (lv_sub hl [1, 4, 5, 6, 0] rfl) hf
    · replace hf := ite_f hf c19
      refine lv_aload_n hx hb dX12_shift_120 rfl (lv_at hl 0 rfl) ?_
      refine w_get (T := TX12) C hw (by decide) 57 kf_X12_137 (EM_0 X _ _) rfl inA12 (by decide) rfl dX12_shift_121 ?_
      refine lv_iload hx hb dX12_shift_124 (lv_at hl 6 rfl) ?_
      refine lv_aload_n hx hb dX12_shift_126 rfl (lv_at hl 0 rfl) ?_
      refine w_get (T := TX12) C hw (by decide) 56 kf_X12_133 (EM_0 X _ _) rfl inA12 (by decide) rfl dX12_shift_127 ?_
      refine lv_bipush (v := 60) hx hb dX12_shift_130 (by decide) ?_
      refine lv_iload_n hx hb dX12_shift_132 rfl (lv_at hl 1 rfl) ?_
      refine lv_imul hx hb dX12_shift_133 ?_
      refine lv_iload_n hx hb dX12_shift_134 rfl (lv_at hl 2 rfl) ?_
      refine lv_iadd hx hb dX12_shift_135 ?_
      refine lv_iload hx hb dX12_shift_136 (lv_at hl 6 rfl) ?_
      refine lv_iadd hx hb dX12_shift_138 ?_
      obtain ⟨h20, hf⟩ := gd_some hf
      refine w_lald C hw (by decide) (EM_41 X _ _) h20 rfl dX12_shift_139 ?_
      obtain ⟨h21, hf⟩ := gd_some hf
      obtain ⟨st22, es23⟩ : ∃ z : St, z = sL st 42 v6.toNatClampNeg (gL st 41 ((((60 : Int32) * v1) + v2) + v6).toNatClampNeg) := ⟨_, rfl⟩
      replace hf := bnd_nm hf es23
      refine w_last C hw (by decide) (fun g9 => EM_42 X _ g9) h21 rfl dX12_shift_140 (fun H locs hw => ?_)
      rw [← es23] at hw
      obtain ⟨x24, e25⟩ : ∃ z : Int32, z = v6 + (1 : Int32) := ⟨_, rfl⟩
      replace hf := bnd_nm hf e25
      refine lv_iinc (v := x24) (lv' := [(6, .int x24), (0, .ref (xq X 0)), (1, .int v1), (2, .int v2), (3, .int v3), (4, .int v4), (5, .int v5)]) hx hb dX12_shift_141 hl (k := 6) rfl (by rw [e25]; rfl) (by decide) rfl (fun ls hl => ?_)
      refine lv_goto (tgt := 113) hx hb dX12_shift_144 (by decide) ?_
      exact ih st22 v1 v2 v3 v4 v5 x24 _ _ _ hw (lv_sub hl [1, 2, 3, 4, 5, 6, 0] rfl) hf
def fX12_shift (n : Nat) (st : St) (a1 : Int32) (a2 : Int32) (a3 : Int32) (a4 : Int32) (a5 : Int32) : Option (Int32 × St) := if bI (fX12_isShelf a1) = 0 then (some ((-1 : Int32), st)) else (if bI (fX12_isShelf a3) = 0 then (some ((-1 : Int32), st)) else (gd (inB a1 6) (if gI st 39 a1.toNatClampNeg = (-1 : Int32) then (some ((-11 : Int32), st)) else (gd (inB a3 6) (if gI st 39 a3.toNatClampNeg = (-1 : Int32) then (some ((-11 : Int32), st)) else (gd (inB a1 6) (if 0 ≤ gI st 39 a1.toNatClampNeg then (some ((-12 : Int32), st)) else (gd (inB a1 6) (gd (inB a3 6) (if gI st 39 a1.toNatClampNeg = gI st 39 a3.toNatClampNeg then (if a5 < 0 then (some ((-13 : Int32), st)) else (if a2 < 0 then (some ((-13 : Int32), st)) else (if a4 < 0 then (some ((-13 : Int32), st)) else (gd (inB a1 6) (if (gI st 40 a1.toNatClampNeg) - a5 < a2 then (some ((-13 : Int32), st)) else (gd (inB a3 6) (if a4 ≤ (gI st 40 a3.toNatClampNeg) - a5 then (fX12_shift_113 n n st a1 a2 a3 a4 a5 (0 : Int32)) else (some ((-13 : Int32), st))))))))) else (some ((-12 : Int32), st))))))))))))
set_option maxHeartbeats 4000000 in
theorem zX12_shift (l : Launch) (X : WX) (n : Nat) (st : St) (a1 : Int32) (a2 : Int32) (a3 : Int32) (a4 : Int32) (a5 : Int32) (R : Int32 × St) (hf : fX12_shift n st a1 a2 a3 a4 a5 = some R) : CtI l yX12_shift cX12_shift 7 .int ({ frames := 2, cells := 0, slots := 0, locals := 42 }) EM 43 X [.ref (xq X 0), .int a1, .int a2, .int a3, .int a4, .int a5] st R.1 R.2 := by
  refine ct_in (own := RX12) (by decide +kernel) rfl (Nat.le_of_ble_eq_true rfl) (fun p e s m below meth c C hr hw ls hl => ?_)
  obtain ⟨hx, hb, hml, hown, hts⟩ := id C.1
  have hl : lv_has ls 7 [(0, .ref (xq X 0)), (1, .int a1), (2, .int a2), (3, .int a3), (4, .int a4), (5, .int a5)] := hl
  unfold fX12_shift at hf
  refine lv_iload_n hx hb dX12_shift_0 rfl (lv_at hl 1 rfl) ?_
  refine w_goI hw (w_runS (rest := []) C hw (zX12_isShelf _ _ st a1) km_X12_168 kt_yX12_isShelf kz_X12 kc_X12_isShelf ok_yX12_isShelf ⟨Nat.le_of_ble_eq_true rfl, Nat.le_of_ble_eq_true rfl⟩ rfl rfl rfl rfl hl.1 (Nat.le_of_ble_eq_true rfl) dX12_shift_1 ⟨Nat.zero_le _, Nat.zero_le _⟩) (fun H locs hw => ?_)
  refine lv_if_eq (tgt := 14) hx hb dX12_shift_4 (by decide) (fun c1 => ?_) (fun c1 => ?_)
  · replace hf := ite_t hf c1
    refine lv_iconst (v := -1) hx hb dX12_shift_14 (by decide) ?_
    exact w_iret C hw hr (so2 hf).1 (so2 hf).2 dX12_shift_15
  · replace hf := ite_f hf c1
    refine lv_iload_n hx hb dX12_shift_7 rfl (lv_at hl 3 rfl) ?_
    refine w_goI hw (w_runS (rest := []) C hw (zX12_isShelf _ _ st a3) km_X12_168 kt_yX12_isShelf kz_X12 kc_X12_isShelf ok_yX12_isShelf ⟨Nat.le_of_ble_eq_true rfl, Nat.le_of_ble_eq_true rfl⟩ rfl rfl rfl rfl hl.1 (Nat.le_of_ble_eq_true rfl) dX12_shift_8 ⟨Nat.zero_le _, Nat.zero_le _⟩) (fun H locs hw => ?_)
    refine lv_if_ne (tgt := 16) hx hb dX12_shift_11 (by decide) (fun c2 => ?_) (fun c2 => ?_)
    · replace hf := ite_f hf c2
      refine lv_aload_n hx hb dX12_shift_16 rfl (lv_at hl 0 rfl) ?_
      refine w_get (T := TX12) C hw (by decide) 54 kf_X12_127 (EM_0 X _ _) rfl inA12 (by decide) rfl dX12_shift_17 ?_
      refine lv_iload_n hx hb dX12_shift_20 rfl (lv_at hl 1 rfl) ?_
      obtain ⟨h3, hf⟩ := gd_some hf
      refine w_iald C hw (by decide) (EM_39 X _ _) h3 rfl dX12_shift_21 ?_
      refine lv_iconst (v := -1) hx hb dX12_shift_22 (by decide) ?_
      refine lv_icmp_eq (tgt := 36) hx hb dX12_shift_23 (by decide) (fun c4 => ?_) (fun c4 => ?_)
      · replace hf := ite_t hf c4
        refine lv_bipush (v := -11) hx hb dX12_shift_36 (by decide) ?_
        exact w_iret C hw hr (so2 hf).1 (so2 hf).2 dX12_shift_38
      · replace hf := ite_f hf c4
        refine lv_aload_n hx hb dX12_shift_26 rfl (lv_at hl 0 rfl) ?_
        refine w_get (T := TX12) C hw (by decide) 54 kf_X12_127 (EM_0 X _ _) rfl inA12 (by decide) rfl dX12_shift_27 ?_
        refine lv_iload_n hx hb dX12_shift_30 rfl (lv_at hl 3 rfl) ?_
        obtain ⟨h5, hf⟩ := gd_some hf
        refine w_iald C hw (by decide) (EM_39 X _ _) h5 rfl dX12_shift_31 ?_
        refine lv_iconst (v := -1) hx hb dX12_shift_32 (by decide) ?_
        refine lv_icmp_ne (tgt := 39) hx hb dX12_shift_33 (by decide) (fun c6 => ?_) (fun c6 => ?_)
        · replace hf := ite_f hf c6
          refine lv_aload_n hx hb dX12_shift_39 rfl (lv_at hl 0 rfl) ?_
          refine w_get (T := TX12) C hw (by decide) 54 kf_X12_127 (EM_0 X _ _) rfl inA12 (by decide) rfl dX12_shift_40 ?_
          refine lv_iload_n hx hb dX12_shift_43 rfl (lv_at hl 1 rfl) ?_
          obtain ⟨h7, hf⟩ := gd_some hf
          refine w_iald C hw (by decide) (EM_39 X _ _) h7 rfl dX12_shift_44 ?_
          refine lv_if_ge (tgt := 63) hx hb dX12_shift_45 (by decide) (fun c8 => ?_) (fun c8 => ?_)
          · replace hf := ite_t hf c8
            refine lv_bipush (v := -12) hx hb dX12_shift_63 (by decide) ?_
            exact w_iret C hw hr (so2 hf).1 (so2 hf).2 dX12_shift_65
          · replace hf := ite_f hf c8
            refine lv_aload_n hx hb dX12_shift_48 rfl (lv_at hl 0 rfl) ?_
            refine w_get (T := TX12) C hw (by decide) 54 kf_X12_127 (EM_0 X _ _) rfl inA12 (by decide) rfl dX12_shift_49 ?_
            refine lv_iload_n hx hb dX12_shift_52 rfl (lv_at hl 1 rfl) ?_
            obtain ⟨h9, hf⟩ := gd_some hf
            refine w_iald C hw (by decide) (EM_39 X _ _) h9 rfl dX12_shift_53 ?_
            refine lv_aload_n hx hb dX12_shift_54 rfl (lv_at hl 0 rfl) ?_
            refine w_get (T := TX12) C hw (by decide) 54 kf_X12_127 (EM_0 X _ _) rfl inA12 (by decide) rfl dX12_shift_55 ?_
            refine lv_iload_n hx hb dX12_shift_58 rfl (lv_at hl 3 rfl) ?_
            obtain ⟨h10, hf⟩ := gd_some hf
            refine w_iald C hw (by decide) (EM_39 X _ _) h10 rfl dX12_shift_59 ?_
            refine lv_icmp_eq (tgt := 66) hx hb dX12_shift_60 (by decide) (fun c11 => ?_) (fun c11 => ?_)
            · replace hf := ite_t hf c11
              refine lv_iload hx hb dX12_shift_66 (lv_at hl 5 rfl) ?_
              refine lv_if_lt (tgt := 107) hx hb dX12_shift_68 (by decide) (fun c12 => ?_) (fun c12 => ?_)
              · replace hf := ite_t hf c12
                refine lv_bipush (v := -13) hx hb dX12_shift_107 (by decide) ?_
                exact w_iret C hw hr (so2 hf).1 (so2 hf).2 dX12_shift_109
              · replace hf := ite_f hf c12
                refine lv_iload_n hx hb dX12_shift_71 rfl (lv_at hl 2 rfl) ?_
                refine lv_if_lt (tgt := 107) hx hb dX12_shift_72 (by decide) (fun c13 => ?_) (fun c13 => ?_)
                · replace hf := ite_t hf c13
                  refine lv_bipush (v := -13) hx hb dX12_shift_107 (by decide) ?_
                  exact w_iret C hw hr (so2 hf).1 (so2 hf).2 dX12_shift_109
                · replace hf := ite_f hf c13
                  refine lv_iload hx hb dX12_shift_75 (lv_at hl 4 rfl) ?_
                  refine lv_if_lt (tgt := 107) hx hb dX12_shift_77 (by decide) (fun c14 => ?_) (fun c14 => ?_)
                  · replace hf := ite_t hf c14
                    refine lv_bipush (v := -13) hx hb dX12_shift_107 (by decide) ?_
                    exact w_iret C hw hr (so2 hf).1 (so2 hf).2 dX12_shift_109
                  · replace hf := ite_f hf c14
                    refine lv_iload_n hx hb dX12_shift_80 rfl (lv_at hl 2 rfl) ?_
                    refine lv_aload_n hx hb dX12_shift_81 rfl (lv_at hl 0 rfl) ?_
                    refine w_get (T := TX12) C hw (by decide) 55 kf_X12_130 (EM_0 X _ _) rfl inA12 (by decide) rfl dX12_shift_82 ?_
                    refine lv_iload_n hx hb dX12_shift_85 rfl (lv_at hl 1 rfl) ?_
                    obtain ⟨h15, hf⟩ := gd_some hf
                    refine w_iald C hw (by decide) (EM_40 X _ _) h15 rfl dX12_shift_86 ?_
                    refine lv_iload hx hb dX12_shift_87 (lv_at hl 5 rfl) ?_
                    refine lv_isub hx hb dX12_shift_89 ?_
                    refine lv_icmp_gt (tgt := 107) hx hb dX12_shift_90 (by decide) (fun c16 => ?_) (fun c16 => ?_)
                    · replace hf := ite_t hf c16
                      refine lv_bipush (v := -13) hx hb dX12_shift_107 (by decide) ?_
                      exact w_iret C hw hr (so2 hf).1 (so2 hf).2 dX12_shift_109
                    · replace hf := ite_f hf c16
                      refine lv_iload hx hb dX12_shift_93 (lv_at hl 4 rfl) ?_
                      refine lv_aload_n hx hb dX12_shift_95 rfl (lv_at hl 0 rfl) ?_
                      refine w_get (T := TX12) C hw (by decide) 55 kf_X12_130 (EM_0 X _ _) rfl inA12 (by decide) rfl dX12_shift_96 ?_
                      refine lv_iload_n hx hb dX12_shift_99 rfl (lv_at hl 3 rfl) ?_
                      obtain ⟨h17, hf⟩ := gd_some hf
                      refine w_iald C hw (by decide) (EM_40 X _ _) h17 rfl dX12_shift_100 ?_
                      refine lv_iload hx hb dX12_shift_101 (lv_at hl 5 rfl) ?_
                      refine lv_isub hx hb dX12_shift_103 ?_
                      refine lv_icmp_le (tgt := 110) hx hb dX12_shift_104 (by decide) (fun c18 => ?_) (fun c18 => ?_)
                      · replace hf := ite_t hf c18
                        refine lv_iconst (v := 0) hx hb dX12_shift_110 (by decide) ?_
                        refine lv_istore (lv' := [(6, .int (0 : Int32)), (0, .ref (xq X 0)), (1, .int a1), (2, .int a2), (3, .int a3), (4, .int a4), (5, .int a5)]) hx hb dX12_shift_111 hl (by decide) rfl (fun ls hl => ?_)
                        exact tX12_shift_113 C hr n st a1 a2 a3 a4 a5 (0 : Int32) _ _ _ hw (lv_sub hl [1, 2, 3, 4, 5, 6, 0] rfl) hf
                      · replace hf := ite_f hf c18
                        refine lv_bipush (v := -13) hx hb dX12_shift_107 (by decide) ?_
                        exact w_iret C hw hr (so2 hf).1 (so2 hf).2 dX12_shift_109
            · replace hf := ite_f hf c11
              refine lv_bipush (v := -12) hx hb dX12_shift_63 (by decide) ?_
              exact w_iret C hw hr (so2 hf).1 (so2 hf).2 dX12_shift_65
        · replace hf := ite_t hf c6
          refine lv_bipush (v := -11) hx hb dX12_shift_36 (by decide) ?_
          exact w_iret C hw hr (so2 hf).1 (so2 hf).2 dX12_shift_38
    · replace hf := ite_t hf c2
      refine lv_iconst (v := -1) hx hb dX12_shift_14 (by decide) ?_
      exact w_iret C hw hr (so2 hf).1 (so2 hf).2 dX12_shift_15
theorem dX12_taken_0 : decode cX12_taken 0 = .ok (.iload_n 1, 1) := by decide +kernel
theorem dX12_taken_1 : decode cX12_taken 1 = .ok (.invokestatic 168, 3) := by decide +kernel
theorem dX12_taken_4 : decode cX12_taken 4 = .ok (.ifCond .eq 13, 3) := by decide +kernel
theorem dX12_taken_7 : decode cX12_taken 7 = .ok (.iload_n 2, 1) := by decide +kernel
theorem dX12_taken_8 : decode cX12_taken 8 = .ok (.iconst 0, 1) := by decide +kernel
theorem dX12_taken_9 : decode cX12_taken 9 = .ok (.bipush 7, 2) := by decide +kernel
theorem dX12_taken_11 : decode cX12_taken 11 = .ok (.invokestatic 147, 3) := by decide +kernel
theorem dX12_taken_14 : decode cX12_taken 14 = .ok (.ifCond .ne 5, 3) := by decide +kernel
theorem dX12_taken_17 : decode cX12_taken 17 = .ok (.iconst (-1), 1) := by decide +kernel
theorem dX12_taken_18 : decode cX12_taken 18 = .ok (.ireturn, 1) := by decide +kernel
theorem dX12_taken_19 : decode cX12_taken 19 = .ok (.aload_n 0, 1) := by decide +kernel
theorem dX12_taken_20 : decode cX12_taken 20 = .ok (.getfield 127, 3) := by decide +kernel
theorem dX12_taken_23 : decode cX12_taken 23 = .ok (.iload_n 1, 1) := by decide +kernel
theorem dX12_taken_24 : decode cX12_taken 24 = .ok (.iaload, 1) := by decide +kernel
theorem dX12_taken_25 : decode cX12_taken 25 = .ok (.iconst (-1), 1) := by decide +kernel
theorem dX12_taken_26 : decode cX12_taken 26 = .ok (.if_icmp .ne 6, 3) := by decide +kernel
theorem dX12_taken_29 : decode cX12_taken 29 = .ok (.bipush (-11), 2) := by decide +kernel
theorem dX12_taken_31 : decode cX12_taken 31 = .ok (.ireturn, 1) := by decide +kernel
theorem dX12_taken_32 : decode cX12_taken 32 = .ok (.aload_n 0, 1) := by decide +kernel
theorem dX12_taken_33 : decode cX12_taken 33 = .ok (.getfield 127, 3) := by decide +kernel
theorem dX12_taken_36 : decode cX12_taken 36 = .ok (.iload_n 1, 1) := by decide +kernel
theorem dX12_taken_37 : decode cX12_taken 37 = .ok (.iaload, 1) := by decide +kernel
theorem dX12_taken_38 : decode cX12_taken 38 = .ok (.ifCond .lt 35, 3) := by decide +kernel
theorem dX12_taken_41 : decode cX12_taken 41 = .ok (.aload_n 0, 1) := by decide +kernel
theorem dX12_taken_42 : decode cX12_taken 42 = .ok (.getfield 121, 3) := by decide +kernel
theorem dX12_taken_45 : decode cX12_taken 45 = .ok (.aload_n 0, 1) := by decide +kernel
theorem dX12_taken_46 : decode cX12_taken 46 = .ok (.getfield 127, 3) := by decide +kernel
theorem dX12_taken_49 : decode cX12_taken 49 = .ok (.iload_n 1, 1) := by decide +kernel
theorem dX12_taken_50 : decode cX12_taken 50 = .ok (.iaload, 1) := by decide +kernel
theorem dX12_taken_51 : decode cX12_taken 51 = .ok (.iaload, 1) := by decide +kernel
theorem dX12_taken_52 : decode cX12_taken 52 = .ok (.iload_n 2, 1) := by decide +kernel
theorem dX12_taken_53 : decode cX12_taken 53 = .ok (.invokestatic 418, 3) := by decide +kernel
theorem dX12_taken_56 : decode cX12_taken 56 = .ok (.ifCond .eq 17, 3) := by decide +kernel
theorem dX12_taken_59 : decode cX12_taken 59 = .ok (.aload_n 0, 1) := by decide +kernel
theorem dX12_taken_60 : decode cX12_taken 60 = .ok (.getfield 121, 3) := by decide +kernel
theorem dX12_taken_63 : decode cX12_taken 63 = .ok (.aload_n 0, 1) := by decide +kernel
theorem dX12_taken_64 : decode cX12_taken 64 = .ok (.getfield 127, 3) := by decide +kernel
theorem dX12_taken_67 : decode cX12_taken 67 = .ok (.iload_n 1, 1) := by decide +kernel
theorem dX12_taken_68 : decode cX12_taken 68 = .ok (.iaload, 1) := by decide +kernel
theorem dX12_taken_69 : decode cX12_taken 69 = .ok (.iaload, 1) := by decide +kernel
theorem dX12_taken_70 : decode cX12_taken 70 = .ok (.goto 5, 3) := by decide +kernel
theorem dX12_taken_73 : decode cX12_taken 73 = .ok (.bipush (-12), 2) := by decide +kernel
theorem dX12_taken_75 : decode cX12_taken 75 = .ok (.ireturn, 1) := by decide +kernel
theorem ok_yX12_taken : yOk yX12_taken 2 := ⟨by decide +kernel, by decide +kernel, by decide +kernel⟩
def fX12_taken (st : St) (a1 : Int32) (a2 : Int32) : Option (Int32) := if bI (fX12_isShelf a1) = 0 then (some (-1 : Int32)) else (if bI (fX12_in a2 (0 : Int32) (7 : Int32)) = 0 then (some (-1 : Int32)) else (gd (inB a1 6) (if gI st 39 a1.toNatClampNeg = (-1 : Int32) then (some (-11 : Int32)) else (gd (inB a1 6) (if gI st 39 a1.toNatClampNeg < 0 then (some (-12 : Int32)) else (gd (inB a1 6) (gd (inB (gI st 39 a1.toNatClampNeg) 50) (if bI (fX12_isUnder (gI st 37 (gI st 39 a1.toNatClampNeg).toNatClampNeg) a2) = 0 then (some (-12 : Int32)) else (gd (inB a1 6) (gd (inB (gI st 39 a1.toNatClampNeg) 50) (some (gI st 37 (gI st 39 a1.toNatClampNeg).toNatClampNeg))))))))))))
set_option maxHeartbeats 4000000 in
theorem zX12_taken (l : Launch) (X : WX) (st : St) (a1 : Int32) (a2 : Int32) (R : Int32) (hf : fX12_taken st a1 a2 = some R) : CtI l yX12_taken cX12_taken 3 .int ({ frames := 2, cells := 0, slots := 0, locals := 42 }) EM 43 X [.ref (xq X 0), .int a1, .int a2] st R st := by
  refine ct_in (own := RX12) (by decide +kernel) rfl (Nat.le_of_ble_eq_true rfl) (fun p e s m below meth c C hr hw ls hl => ?_)
  obtain ⟨hx, hb, hml, hown, hts⟩ := id C.1
  have hl : lv_has ls 3 [(0, .ref (xq X 0)), (1, .int a1), (2, .int a2)] := hl
  unfold fX12_taken at hf
  refine lv_iload_n hx hb dX12_taken_0 rfl (lv_at hl 1 rfl) ?_
  refine w_goI hw (w_runS (rest := []) C hw (zX12_isShelf _ _ st a1) km_X12_168 kt_yX12_isShelf kz_X12 kc_X12_isShelf ok_yX12_isShelf ⟨Nat.le_of_ble_eq_true rfl, Nat.le_of_ble_eq_true rfl⟩ rfl rfl rfl rfl hl.1 (Nat.le_of_ble_eq_true rfl) dX12_taken_1 ⟨Nat.zero_le _, Nat.zero_le _⟩) (fun H locs hw => ?_)
  refine lv_if_eq (tgt := 17) hx hb dX12_taken_4 (by decide) (fun c1 => ?_) (fun c1 => ?_)
  · replace hf := ite_t hf c1
    refine lv_iconst (v := -1) hx hb dX12_taken_17 (by decide) ?_
    exact w_iret C hw hr (Option.some.inj hf) rfl dX12_taken_18
  · replace hf := ite_f hf c1
    refine lv_iload_n hx hb dX12_taken_7 rfl (lv_at hl 2 rfl) ?_
    refine lv_iconst (v := 0) hx hb dX12_taken_8 (by decide) ?_
    refine lv_bipush (v := 7) hx hb dX12_taken_9 (by decide) ?_
    refine w_goI hw (w_runS (rest := []) C hw (zX12_in _ _ st a2 (0 : Int32) (7 : Int32)) km_X12_147 kt_yX12_in kz_X12 kc_X12_in ok_yX12_in ⟨Nat.le_of_ble_eq_true rfl, Nat.le_of_ble_eq_true rfl⟩ rfl rfl rfl rfl hl.1 (Nat.le_of_ble_eq_true rfl) dX12_taken_11 ⟨Nat.zero_le _, Nat.zero_le _⟩) (fun H locs hw => ?_)
    refine lv_if_ne (tgt := 19) hx hb dX12_taken_14 (by decide) (fun c2 => ?_) (fun c2 => ?_)
    · replace hf := ite_f hf c2
      refine lv_aload_n hx hb dX12_taken_19 rfl (lv_at hl 0 rfl) ?_
      refine w_get (T := TX12) C hw (by decide) 54 kf_X12_127 (EM_0 X _ _) rfl inA12 (by decide) rfl dX12_taken_20 ?_
      refine lv_iload_n hx hb dX12_taken_23 rfl (lv_at hl 1 rfl) ?_
      obtain ⟨h3, hf⟩ := gd_some hf
      refine w_iald C hw (by decide) (EM_39 X _ _) h3 rfl dX12_taken_24 ?_
      refine lv_iconst (v := -1) hx hb dX12_taken_25 (by decide) ?_
      refine lv_icmp_ne (tgt := 32) hx hb dX12_taken_26 (by decide) (fun c4 => ?_) (fun c4 => ?_)
      · replace hf := ite_f hf c4
        refine lv_aload_n hx hb dX12_taken_32 rfl (lv_at hl 0 rfl) ?_
        refine w_get (T := TX12) C hw (by decide) 54 kf_X12_127 (EM_0 X _ _) rfl inA12 (by decide) rfl dX12_taken_33 ?_
        refine lv_iload_n hx hb dX12_taken_36 rfl (lv_at hl 1 rfl) ?_
        obtain ⟨h5, hf⟩ := gd_some hf
        refine w_iald C hw (by decide) (EM_39 X _ _) h5 rfl dX12_taken_37 ?_
        refine lv_if_lt (tgt := 73) hx hb dX12_taken_38 (by decide) (fun c6 => ?_) (fun c6 => ?_)
        · replace hf := ite_t hf c6
          refine lv_bipush (v := -12) hx hb dX12_taken_73 (by decide) ?_
          exact w_iret C hw hr (Option.some.inj hf) rfl dX12_taken_75
        · replace hf := ite_f hf c6
          refine lv_aload_n hx hb dX12_taken_41 rfl (lv_at hl 0 rfl) ?_
          refine w_get (T := TX12) C hw (by decide) 51 kf_X12_121 (EM_0 X _ _) rfl inA12 (by decide) rfl dX12_taken_42 ?_
          refine lv_aload_n hx hb dX12_taken_45 rfl (lv_at hl 0 rfl) ?_
          refine w_get (T := TX12) C hw (by decide) 54 kf_X12_127 (EM_0 X _ _) rfl inA12 (by decide) rfl dX12_taken_46 ?_
          refine lv_iload_n hx hb dX12_taken_49 rfl (lv_at hl 1 rfl) ?_
          obtain ⟨h7, hf⟩ := gd_some hf
          refine w_iald C hw (by decide) (EM_39 X _ _) h7 rfl dX12_taken_50 ?_
          obtain ⟨h8, hf⟩ := gd_some hf
          refine w_iald C hw (by decide) (EM_37 X _ _) h8 rfl dX12_taken_51 ?_
          refine lv_iload_n hx hb dX12_taken_52 rfl (lv_at hl 2 rfl) ?_
          refine w_goI hw (w_runS (rest := []) C hw (zX12_isUnder _ _ st (gI st 37 (gI st 39 a1.toNatClampNeg).toNatClampNeg) a2) km_X12_418 kt_yX12_isUnder kz_X12 kc_X12_isUnder ok_yX12_isUnder ⟨Nat.le_of_ble_eq_true rfl, Nat.le_of_ble_eq_true rfl⟩ rfl rfl rfl rfl hl.1 (Nat.le_of_ble_eq_true rfl) dX12_taken_53 ⟨Nat.zero_le _, Nat.zero_le _⟩) (fun H locs hw => ?_)
          refine lv_if_eq (tgt := 73) hx hb dX12_taken_56 (by decide) (fun c9 => ?_) (fun c9 => ?_)
          · replace hf := ite_t hf c9
            refine lv_bipush (v := -12) hx hb dX12_taken_73 (by decide) ?_
            exact w_iret C hw hr (Option.some.inj hf) rfl dX12_taken_75
          · replace hf := ite_f hf c9
            refine lv_aload_n hx hb dX12_taken_59 rfl (lv_at hl 0 rfl) ?_
            refine w_get (T := TX12) C hw (by decide) 51 kf_X12_121 (EM_0 X _ _) rfl inA12 (by decide) rfl dX12_taken_60 ?_
            refine lv_aload_n hx hb dX12_taken_63 rfl (lv_at hl 0 rfl) ?_
            refine w_get (T := TX12) C hw (by decide) 54 kf_X12_127 (EM_0 X _ _) rfl inA12 (by decide) rfl dX12_taken_64 ?_
            refine lv_iload_n hx hb dX12_taken_67 rfl (lv_at hl 1 rfl) ?_
            obtain ⟨h10, hf⟩ := gd_some hf
            refine w_iald C hw (by decide) (EM_39 X _ _) h10 rfl dX12_taken_68 ?_
            obtain ⟨h11, hf⟩ := gd_some hf
            refine w_iald C hw (by decide) (EM_37 X _ _) h11 rfl dX12_taken_69 ?_
            refine lv_goto (tgt := 75) hx hb dX12_taken_70 (by decide) ?_
            exact w_iret C hw hr (Option.some.inj hf) rfl dX12_taken_75
      · replace hf := ite_t hf c4
        refine lv_bipush (v := -11) hx hb dX12_taken_29 (by decide) ?_
        exact w_iret C hw hr (Option.some.inj hf) rfl dX12_taken_31
    · replace hf := ite_t hf c2
      refine lv_iconst (v := -1) hx hb dX12_taken_17 (by decide) ?_
      exact w_iret C hw hr (Option.some.inj hf) rfl dX12_taken_18
