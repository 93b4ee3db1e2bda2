theorem dX11_field_0 : decode cX11_field 0 = .ok (.iload_n 1, 1) := by decide +kernel
theorem dX11_field_1 : decode cX11_field 1 = .ok (.invokestatic 103, 3) := by decide +kernel
theorem dX11_field_4 : decode cX11_field 4 = .ok (.ifCond .eq 10, 3) := by decide +kernel
theorem dX11_field_7 : decode cX11_field 7 = .ok (.iload_n 2, 1) := by decide +kernel
theorem dX11_field_8 : decode cX11_field 8 = .ok (.invokestatic 107, 3) := by decide +kernel
theorem dX11_field_11 : decode cX11_field 11 = .ok (.ifCond .ne 5, 3) := by decide +kernel
theorem dX11_field_14 : decode cX11_field 14 = .ok (.iconst (-1), 1) := by decide +kernel
theorem dX11_field_15 : decode cX11_field 15 = .ok (.ireturn, 1) := by decide +kernel
theorem dX11_field_16 : decode cX11_field 16 = .ok (.aload_n 0, 1) := by decide +kernel
theorem dX11_field_17 : decode cX11_field 17 = .ok (.getfield 10, 3) := by decide +kernel
theorem dX11_field_20 : decode cX11_field 20 = .ok (.getfield 110, 3) := by decide +kernel
theorem dX11_field_23 : decode cX11_field 23 = .ok (.bipush 8, 2) := by decide +kernel
theorem dX11_field_25 : decode cX11_field 25 = .ok (.if_icmp .ne 8, 3) := by decide +kernel
theorem dX11_field_28 : decode cX11_field 28 = .ok (.bipush (-3), 2) := by decide +kernel
theorem dX11_field_30 : decode cX11_field 30 = .ok (.goto 12, 3) := by decide +kernel
theorem dX11_field_33 : decode cX11_field 33 = .ok (.aload_n 0, 1) := by decide +kernel
theorem dX11_field_34 : decode cX11_field 34 = .ok (.getfield 10, 3) := by decide +kernel
theorem dX11_field_37 : decode cX11_field 37 = .ok (.iload_n 1, 1) := by decide +kernel
theorem dX11_field_38 : decode cX11_field 38 = .ok (.iload_n 2, 1) := by decide +kernel
theorem dX11_field_39 : decode cX11_field 39 = .ok (.invokevirtual 113, 3) := by decide +kernel
theorem dX11_field_42 : decode cX11_field 42 = .ok (.ireturn, 1) := by decide +kernel
theorem ok_yX11_field : yOk yX11_field 2 := ⟨by decide +kernel, by decide +kernel, by decide +kernel⟩
def fX11_field (st : St) (a1 : Int32) (a2 : Int32) : Option (Int32 × St) := if bI (fX11_isCell a1) = 0 then (some ((-1 : Int32), st)) else (if bI (fX11_isSize a2) = 0 then (some ((-1 : Int32), st)) else (if gI st 1 1 = (8 : Int32) then (some ((-3 : Int32), st)) else ((fX3_addField st a1 a2).bind (fun r4 => some (r4.1, r4.2)))))
set_option maxHeartbeats 4000000 in
theorem zX11_field (l : Launch) (X : WX) (st : St) (a1 : Int32) (a2 : Int32) (R : Int32 × St) (hf : fX11_field st a1 a2 = some R) : CtI l yX11_field cX11_field 3 .int ({ frames := 2, cells := 0, slots := 0, locals := 42 }) EC 65 X [.ref (xq X 0), .int a1, .int a2] st R.1 R.2 := by
  refine ct_in (own := RX11) (by decide +kernel) rfl (Nat.le_of_ble_eq_true rfl) (fun p e s m below meth c C hr hw ls hl => ?_)
  obtain ⟨hx, hb, hml, hown, hts⟩ := id C.1
  have hl : lv_has ls 3 [(0, .ref (xq X 0)), (1, .int a1), (2, .int a2)] := hl
  unfold fX11_field at hf
  refine lv_iload_n hx hb dX11_field_0 rfl (lv_at hl 1 rfl) ?_
  refine w_goI hw (w_runS (rest := []) C hw (zX11_isCell _ _ st a1) km_X11_103 kt_yX11_isCell kz_X11 kc_X11_isCell ok_yX11_isCell ⟨Nat.le_of_ble_eq_true rfl, Nat.le_of_ble_eq_true rfl⟩ rfl rfl rfl rfl hl.1 (Nat.le_of_ble_eq_true rfl) dX11_field_1 ⟨Nat.zero_le _, Nat.zero_le _⟩) (fun H locs hw => ?_)
  refine lv_if_eq (tgt := 14) hx hb dX11_field_4 (by decide) (fun c1 => ?_) (fun c1 => ?_)
  · replace hf := ite_t hf c1
    refine lv_iconst (v := -1) hx hb dX11_field_14 (by decide) ?_
    exact w_iret C hw hr (so2 hf).1 (so2 hf).2 dX11_field_15
  · replace hf := ite_f hf c1
    refine lv_iload_n hx hb dX11_field_7 rfl (lv_at hl 2 rfl) ?_
    refine w_goI hw (w_runS (rest := []) C hw (zX11_isSize _ _ st a2) km_X11_107 kt_yX11_isSize kz_X11 kc_X11_isSize ok_yX11_isSize ⟨Nat.le_of_ble_eq_true rfl, Nat.le_of_ble_eq_true rfl⟩ rfl rfl rfl rfl hl.1 (Nat.le_of_ble_eq_true rfl) dX11_field_8 ⟨Nat.zero_le _, Nat.zero_le _⟩) (fun H locs hw => ?_)
    refine lv_if_ne (tgt := 16) hx hb dX11_field_11 (by decide) (fun c2 => ?_) (fun c2 => ?_)
    · replace hf := ite_f hf c2
      refine lv_aload_n hx hb dX11_field_16 rfl (lv_at hl 0 rfl) ?_
      refine w_get (T := TX11) C hw (by decide) 0 kf_X11_10 (EC_0 X _ _) rfl inA11 (by decide) rfl dX11_field_17 ?_
      refine w_get (T := TX3) C hw (by decide) 1 kf_X11_110 (EC_1 X _ _) rfl inA3 (by decide) rfl dX11_field_20 ?_
      refine lv_bipush (v := 8) hx hb dX11_field_23 (by decide) ?_
      refine lv_icmp_ne (tgt := 33) hx hb dX11_field_25 (by decide) (fun c3 => ?_) (fun c3 => ?_)
      · replace hf := ite_f hf c3
        refine lv_aload_n hx hb dX11_field_33 rfl (lv_at hl 0 rfl) ?_
        refine w_get (T := TX11) C hw (by decide) 0 kf_X11_10 (EC_0 X _ _) rfl inA11 (by decide) rfl dX11_field_34 ?_
        refine lv_iload_n hx hb dX11_field_37 rfl (lv_at hl 1 rfl) ?_
        refine lv_iload_n hx hb dX11_field_38 rfl (lv_at hl 2 rfl) ?_
        obtain ⟨r4, k5, hf⟩ := bd_some hf
        refine w_goI hw (w_runV (rest := []) C hw (zX3_addField _ _ st a1 a2 r4 k5) (by decide) (EC_1 X _ _) rfl km_X11_113 ki_yX3_addField kv_X3_addField kz_X3 kc_X3_addField rfl ok_yX3_addField ⟨Nat.le_of_ble_eq_true rfl, Nat.le_of_ble_eq_true rfl⟩ rfl rfl rfl rfl hl.1 (Nat.le_of_ble_eq_true rfl) dX11_field_39 ⟨Nat.zero_le _, Nat.zero_le _⟩) (fun H locs hw => ?_)
        exact w_iret C hw hr (so2 hf).1 (so2 hf).2 dX11_field_42
      · replace hf := ite_t hf c3
        refine lv_bipush (v := -3) hx hb dX11_field_28 (by decide) ?_
        refine lv_goto (tgt := 42) hx hb dX11_field_30 (by decide) ?_
        exact w_iret C hw hr (so2 hf).1 (so2 hf).2 dX11_field_42
    · replace hf := ite_t hf c2
      refine lv_iconst (v := -1) hx hb dX11_field_14 (by decide) ?_
      exact w_iret C hw hr (so2 hf).1 (so2 hf).2 dX11_field_15
theorem dX11_fall_0 : decode cX11_fall 0 = .ok (.iload_n 1, 1) := by decide +kernel
theorem dX11_fall_1 : decode cX11_fall 1 = .ok (.invokestatic 103, 3) := by decide +kernel
theorem dX11_fall_4 : decode cX11_fall 4 = .ok (.ifCond .eq 14, 3) := by decide +kernel
theorem dX11_fall_7 : decode cX11_fall 7 = .ok (.iload_n 2, 1) := by decide +kernel
theorem dX11_fall_8 : decode cX11_fall 8 = .ok (.iconst 0, 1) := by decide +kernel
theorem dX11_fall_9 : decode cX11_fall 9 = .ok (.sipush 999, 3) := by decide +kernel
theorem dX11_fall_12 : decode cX11_fall 12 = .ok (.invokestatic 117, 3) := by decide +kernel
theorem dX11_fall_15 : decode cX11_fall 15 = .ok (.ifCond .ne 5, 3) := by decide +kernel
theorem dX11_fall_18 : decode cX11_fall 18 = .ok (.iconst (-1), 1) := by decide +kernel
theorem dX11_fall_19 : decode cX11_fall 19 = .ok (.ireturn, 1) := by decide +kernel
theorem dX11_fall_20 : decode cX11_fall 20 = .ok (.aload_n 0, 1) := by decide +kernel
theorem dX11_fall_21 : decode cX11_fall 21 = .ok (.getfield 10, 3) := by decide +kernel
theorem dX11_fall_24 : decode cX11_fall 24 = .ok (.getfield 121, 3) := by decide +kernel
theorem dX11_fall_27 : decode cX11_fall 27 = .ok (.bipush 10, 2) := by decide +kernel
theorem dX11_fall_29 : decode cX11_fall 29 = .ok (.if_icmp .ne 8, 3) := by decide +kernel
theorem dX11_fall_32 : decode cX11_fall 32 = .ok (.bipush (-3), 2) := by decide +kernel
theorem dX11_fall_34 : decode cX11_fall 34 = .ok (.goto 12, 3) := by decide +kernel
theorem dX11_fall_37 : decode cX11_fall 37 = .ok (.aload_n 0, 1) := by decide +kernel
theorem dX11_fall_38 : decode cX11_fall 38 = .ok (.getfield 10, 3) := by decide +kernel
theorem dX11_fall_41 : decode cX11_fall 41 = .ok (.iload_n 1, 1) := by decide +kernel
theorem dX11_fall_42 : decode cX11_fall 42 = .ok (.iload_n 2, 1) := by decide +kernel
theorem dX11_fall_43 : decode cX11_fall 43 = .ok (.invokevirtual 124, 3) := by decide +kernel
theorem dX11_fall_46 : decode cX11_fall 46 = .ok (.ireturn, 1) := by decide +kernel
theorem ok_yX11_fall : yOk yX11_fall 2 := ⟨by decide +kernel, by decide +kernel, by decide +kernel⟩
def fX11_fall (st : St) (a1 : Int32) (a2 : Int32) : Option (Int32 × St) := if bI (fX11_isCell a1) = 0 then (some ((-1 : Int32), st)) else (if bI (fX11_isWithin a2 (0 : Int32) (999 : Int32)) = 0 then (some ((-1 : Int32), st)) else (if gI st 1 2 = (10 : Int32) then (some ((-3 : Int32), st)) else ((fX3_addFall st a1 a2).bind (fun r4 => some (r4.1, r4.2)))))
set_option maxHeartbeats 4000000 in
theorem zX11_fall (l : Launch) (X : WX) (st : St) (a1 : Int32) (a2 : Int32) (R : Int32 × St) (hf : fX11_fall st a1 a2 = some R) : CtI l yX11_fall cX11_fall 3 .int ({ frames := 2, cells := 0, slots := 0, locals := 47 }) EC 65 X [.ref (xq X 0), .int a1, .int a2] st R.1 R.2 := by
  refine ct_in (own := RX11) (by decide +kernel) rfl (Nat.le_of_ble_eq_true rfl) (fun p e s m below meth c C hr hw ls hl => ?_)
  obtain ⟨hx, hb, hml, hown, hts⟩ := id C.1
  have hl : lv_has ls 3 [(0, .ref (xq X 0)), (1, .int a1), (2, .int a2)] := hl
  unfold fX11_fall at hf
  refine lv_iload_n hx hb dX11_fall_0 rfl (lv_at hl 1 rfl) ?_
  refine w_goI hw (w_runS (rest := []) C hw (zX11_isCell _ _ st a1) km_X11_103 kt_yX11_isCell kz_X11 kc_X11_isCell ok_yX11_isCell ⟨Nat.le_of_ble_eq_true rfl, Nat.le_of_ble_eq_true rfl⟩ rfl rfl rfl rfl hl.1 (Nat.le_of_ble_eq_true rfl) dX11_fall_1 ⟨Nat.zero_le _, Nat.zero_le _⟩) (fun H locs hw => ?_)
  refine lv_if_eq (tgt := 18) hx hb dX11_fall_4 (by decide) (fun c1 => ?_) (fun c1 => ?_)
  · replace hf := ite_t hf c1
    refine lv_iconst (v := -1) hx hb dX11_fall_18 (by decide) ?_
    exact w_iret C hw hr (so2 hf).1 (so2 hf).2 dX11_fall_19
  · replace hf := ite_f hf c1
    refine lv_iload_n hx hb dX11_fall_7 rfl (lv_at hl 2 rfl) ?_
    refine lv_iconst (v := 0) hx hb dX11_fall_8 (by decide) ?_
    refine lv_sipush (v := 999) hx hb dX11_fall_9 (by decide) ?_
    refine w_goI hw (w_runS (rest := []) C hw (zX11_isWithin _ _ st a2 (0 : Int32) (999 : Int32)) km_X11_117 kt_yX11_isWithin kz_X11 kc_X11_isWithin ok_yX11_isWithin ⟨Nat.le_of_ble_eq_true rfl, Nat.le_of_ble_eq_true rfl⟩ rfl rfl rfl rfl hl.1 (Nat.le_of_ble_eq_true rfl) dX11_fall_12 ⟨Nat.zero_le _, Nat.zero_le _⟩) (fun H locs hw => ?_)
    refine lv_if_ne (tgt := 20) hx hb dX11_fall_15 (by decide) (fun c2 => ?_) (fun c2 => ?_)
    · replace hf := ite_f hf c2
      refine lv_aload_n hx hb dX11_fall_20 rfl (lv_at hl 0 rfl) ?_
      refine w_get (T := TX11) C hw (by decide) 0 kf_X11_10 (EC_0 X _ _) rfl inA11 (by decide) rfl dX11_fall_21 ?_
      refine w_get (T := TX3) C hw (by decide) 2 kf_X11_121 (EC_1 X _ _) rfl inA3 (by decide) rfl dX11_fall_24 ?_
      refine lv_bipush (v := 10) hx hb dX11_fall_27 (by decide) ?_
      refine lv_icmp_ne (tgt := 37) hx hb dX11_fall_29 (by decide) (fun c3 => ?_) (fun c3 => ?_)
      · replace hf := ite_f hf c3
        refine lv_aload_n hx hb dX11_fall_37 rfl (lv_at hl 0 rfl) ?_
        refine w_get (T := TX11) C hw (by decide) 0 kf_X11_10 (EC_0 X _ _) rfl inA11 (by decide) rfl dX11_fall_38 ?_
        refine lv_iload_n hx hb dX11_fall_41 rfl (lv_at hl 1 rfl) ?_
        refine lv_iload_n hx hb dX11_fall_42 rfl (lv_at hl 2 rfl) ?_
        obtain ⟨r4, k5, hf⟩ := bd_some hf
        refine w_goI hw (w_runV (rest := []) C hw (zX3_addFall _ _ st a1 a2 r4 k5) (by decide) (EC_1 X _ _) rfl km_X11_124 ki_yX3_addFall kv_X3_addFall kz_X3 kc_X3_addFall rfl ok_yX3_addFall ⟨Nat.le_of_ble_eq_true rfl, Nat.le_of_ble_eq_true rfl⟩ rfl rfl rfl rfl hl.1 (Nat.le_of_ble_eq_true rfl) dX11_fall_43 ⟨Nat.zero_le _, Nat.zero_le _⟩) (fun H locs hw => ?_)
        exact w_iret C hw hr (so2 hf).1 (so2 hf).2 dX11_fall_46
      · replace hf := ite_t hf c3
        refine lv_bipush (v := -3) hx hb dX11_fall_32 (by decide) ?_
        refine lv_goto (tgt := 46) hx hb dX11_fall_34 (by decide) ?_
        exact w_iret C hw hr (so2 hf).1 (so2 hf).2 dX11_fall_46
    · replace hf := ite_t hf c2
      refine lv_iconst (v := -1) hx hb dX11_fall_18 (by decide) ?_
      exact w_iret C hw hr (so2 hf).1 (so2 hf).2 dX11_fall_19
theorem dX11_fallsFrom_0 : decode cX11_fallsFrom 0 = .ok (.iconst 0, 1) := by decide +kernel
theorem dX11_fallsFrom_1 : decode cX11_fallsFrom 1 = .ok (.istore 4, 2) := by decide +kernel
theorem dX11_fallsFrom_3 : decode cX11_fallsFrom 3 = .ok (.iload_n 2, 1) := by decide +kernel
theorem dX11_fallsFrom_4 : decode cX11_fallsFrom 4 = .ok (.istore 5, 2) := by decide +kernel
theorem dX11_fallsFrom_6 : decode cX11_fallsFrom 6 = .ok (.iload 4, 2) := by decide +kernel
theorem dX11_fallsFrom_8 : decode cX11_fallsFrom 8 = .ok (.iload_n 3, 1) := by decide +kernel
theorem dX11_fallsFrom_9 : decode cX11_fallsFrom 9 = .ok (.if_icmp .ge 122, 3) := by decide +kernel
theorem dX11_fallsFrom_12 : decode cX11_fallsFrom 12 = .ok (.iload 5, 2) := by decide +kernel
theorem dX11_fallsFrom_14 : decode cX11_fallsFrom 14 = .ok (.aload_n 1, 1) := by decide +kernel
theorem dX11_fallsFrom_15 : decode cX11_fallsFrom 15 = .ok (.getfield 138, 3) := by decide +kernel
theorem dX11_fallsFrom_18 : decode cX11_fallsFrom 18 = .ok (.iconst 3, 1) := by decide +kernel
theorem dX11_fallsFrom_19 : decode cX11_fallsFrom 19 = .ok (.isub, 1) := by decide +kernel
theorem dX11_fallsFrom_20 : decode cX11_fallsFrom 20 = .ok (.if_icmp .gt 111, 3) := by decide +kernel
theorem dX11_fallsFrom_23 : decode cX11_fallsFrom 23 = .ok (.aload_n 1, 1) := by decide +kernel
theorem dX11_fallsFrom_24 : decode cX11_fallsFrom 24 = .ok (.getfield 141, 3) := by decide +kernel
theorem dX11_fallsFrom_27 : decode cX11_fallsFrom 27 = .ok (.iload 5, 2) := by decide +kernel
theorem dX11_fallsFrom_29 : decode cX11_fallsFrom 29 = .ok (.laload, 1) := by decide +kernel
theorem dX11_fallsFrom_30 : decode cX11_fallsFrom 30 = .ok (.lstore 6, 2) := by decide +kernel
theorem dX11_fallsFrom_32 : decode cX11_fallsFrom 32 = .ok (.aload_n 1, 1) := by decide +kernel
theorem dX11_fallsFrom_33 : decode cX11_fallsFrom 33 = .ok (.getfield 141, 3) := by decide +kernel
theorem dX11_fallsFrom_36 : decode cX11_fallsFrom 36 = .ok (.iload 5, 2) := by decide +kernel
theorem dX11_fallsFrom_38 : decode cX11_fallsFrom 38 = .ok (.iconst 1, 1) := by decide +kernel
theorem dX11_fallsFrom_39 : decode cX11_fallsFrom 39 = .ok (.iadd, 1) := by decide +kernel
theorem dX11_fallsFrom_40 : decode cX11_fallsFrom 40 = .ok (.laload, 1) := by decide +kernel
theorem dX11_fallsFrom_41 : decode cX11_fallsFrom 41 = .ok (.lstore 8, 2) := by decide +kernel
theorem dX11_fallsFrom_43 : decode cX11_fallsFrom 43 = .ok (.aload_n 1, 1) := by decide +kernel
theorem dX11_fallsFrom_44 : decode cX11_fallsFrom 44 = .ok (.getfield 141, 3) := by decide +kernel
theorem dX11_fallsFrom_47 : decode cX11_fallsFrom 47 = .ok (.iload 5, 2) := by decide +kernel
theorem dX11_fallsFrom_49 : decode cX11_fallsFrom 49 = .ok (.iconst 2, 1) := by decide +kernel
theorem dX11_fallsFrom_50 : decode cX11_fallsFrom 50 = .ok (.iadd, 1) := by decide +kernel
theorem dX11_fallsFrom_51 : decode cX11_fallsFrom 51 = .ok (.laload, 1) := by decide +kernel
theorem dX11_fallsFrom_52 : decode cX11_fallsFrom 52 = .ok (.lstore 10, 2) := by decide +kernel
theorem dX11_fallsFrom_54 : decode cX11_fallsFrom 54 = .ok (.lload 6, 2) := by decide +kernel
theorem dX11_fallsFrom_56 : decode cX11_fallsFrom 56 = .ok (.invokestatic 145, 3) := by decide +kernel
theorem dX11_fallsFrom_59 : decode cX11_fallsFrom 59 = .ok (.ifCond .eq 72, 3) := by decide +kernel
theorem dX11_fallsFrom_62 : decode cX11_fallsFrom 62 = .ok (.lload 8, 2) := by decide +kernel
theorem dX11_fallsFrom_64 : decode cX11_fallsFrom 64 = .ok (.invokestatic 145, 3) := by decide +kernel
theorem dX11_fallsFrom_67 : decode cX11_fallsFrom 67 = .ok (.ifCond .eq 64, 3) := by decide +kernel
theorem dX11_fallsFrom_70 : decode cX11_fallsFrom 70 = .ok (.lload 10, 2) := by decide +kernel
theorem dX11_fallsFrom_72 : decode cX11_fallsFrom 72 = .ok (.lconst 0, 1) := by decide +kernel
theorem dX11_fallsFrom_73 : decode cX11_fallsFrom 73 = .ok (.lcmp, 1) := by decide +kernel
theorem dX11_fallsFrom_74 : decode cX11_fallsFrom 74 = .ok (.ifCond .lt 57, 3) := by decide +kernel
theorem dX11_fallsFrom_77 : decode cX11_fallsFrom 77 = .ok (.lload 10, 2) := by decide +kernel
theorem dX11_fallsFrom_79 : decode cX11_fallsFrom 79 = .ok (.ldc2_w 149, 3) := by decide +kernel
theorem dX11_fallsFrom_82 : decode cX11_fallsFrom 82 = .ok (.lcmp, 1) := by decide +kernel
theorem dX11_fallsFrom_83 : decode cX11_fallsFrom 83 = .ok (.ifCond .ge 48, 3) := by decide +kernel
theorem dX11_fallsFrom_86 : decode cX11_fallsFrom 86 = .ok (.aload_n 0, 1) := by decide +kernel
theorem dX11_fallsFrom_87 : decode cX11_fallsFrom 87 = .ok (.getfield 10, 3) := by decide +kernel
theorem dX11_fallsFrom_90 : decode cX11_fallsFrom 90 = .ok (.getfield 121, 3) := by decide +kernel
theorem dX11_fallsFrom_93 : decode cX11_fallsFrom 93 = .ok (.bipush 10, 2) := by decide +kernel
theorem dX11_fallsFrom_95 : decode cX11_fallsFrom 95 = .ok (.if_icmp .ne 6, 3) := by decide +kernel
theorem dX11_fallsFrom_98 : decode cX11_fallsFrom 98 = .ok (.goto 33, 3) := by decide +kernel
theorem dX11_fallsFrom_101 : decode cX11_fallsFrom 101 = .ok (.aload_n 0, 1) := by decide +kernel
theorem dX11_fallsFrom_102 : decode cX11_fallsFrom 102 = .ok (.getfield 10, 3) := by decide +kernel
theorem dX11_fallsFrom_105 : decode cX11_fallsFrom 105 = .ok (.bipush 20, 2) := by decide +kernel
theorem dX11_fallsFrom_107 : decode cX11_fallsFrom 107 = .ok (.lload 8, 2) := by decide +kernel
theorem dX11_fallsFrom_109 : decode cX11_fallsFrom 109 = .ok (.l2i, 1) := by decide +kernel
theorem dX11_fallsFrom_110 : decode cX11_fallsFrom 110 = .ok (.imul, 1) := by decide +kernel
theorem dX11_fallsFrom_111 : decode cX11_fallsFrom 111 = .ok (.lload 6, 2) := by decide +kernel
theorem dX11_fallsFrom_113 : decode cX11_fallsFrom 113 = .ok (.l2i, 1) := by decide +kernel
theorem dX11_fallsFrom_114 : decode cX11_fallsFrom 114 = .ok (.iadd, 1) := by decide +kernel
theorem dX11_fallsFrom_115 : decode cX11_fallsFrom 115 = .ok (.lload 10, 2) := by decide +kernel
theorem dX11_fallsFrom_117 : decode cX11_fallsFrom 117 = .ok (.l2i, 1) := by decide +kernel
theorem dX11_fallsFrom_118 : decode cX11_fallsFrom 118 = .ok (.invokevirtual 124, 3) := by decide +kernel
theorem dX11_fallsFrom_121 : decode cX11_fallsFrom 121 = .ok (.pop, 1) := by decide +kernel
theorem dX11_fallsFrom_122 : decode cX11_fallsFrom 122 = .ok (.iinc 4 1, 3) := by decide +kernel
theorem dX11_fallsFrom_125 : decode cX11_fallsFrom 125 = .ok (.iinc 5 3, 3) := by decide +kernel
theorem dX11_fallsFrom_128 : decode cX11_fallsFrom 128 = .ok (.goto (-122), 3) := by decide +kernel
theorem dX11_fallsFrom_131 : decode cX11_fallsFrom 131 = .ok (.iload 4, 2) := by decide +kernel
theorem dX11_fallsFrom_133 : decode cX11_fallsFrom 133 = .ok (.ireturn, 1) := by decide +kernel
theorem ok_yX11_fallsFrom : yOk yX11_fallsFrom 3 := ⟨by decide +kernel, by decide +kernel, by decide +kernel⟩
def fX11_fallsFrom_6 (n : Nat) : Nat → St → Nat → Int32 → Int32 → Int32 → Option (Int32 × St)
  | 0, _, _, _, _, _ => none
  | k + 1, st, j1, v3, v4, v5 => if v3 ≤ v4 then (some (v4, st)) else (if (gI st (53 + 2 * j1) 3) - (3 : Int32) < v5 then (some (v4, st)) else (gd (inB v5 60) (bnd (gL st (54 + 2 * j1) v5.toNatClampNeg) (fun x4 => gd (inB (v5 + (1 : Int32)) 60) (bnd (gL st (54 + 2 * j1) (v5 + (1 : Int32)).toNatClampNeg) (fun x7 => gd (inB (v5 + (2 : Int32)) 60) (bnd (gL st (54 + 2 * j1) (v5 + (2 : Int32)).toNatClampNeg) (fun x10 => if bI (fX11_isSide x4) = 0 then (some (v4, st)) else (if bI (fX11_isSide x7) = 0 then (some (v4, st)) else (if lg_cmp x10 (0 : Int64) < 0 then (some (v4, st)) else (if 0 ≤ lg_cmp x10 (1000 : Int64) then (some (v4, st)) else (if gI st 1 2 = (10 : Int32) then (some (v4, st)) else ((fX3_addFall st (((20 : Int32) * x7.toInt32) + x4.toInt32) x10.toInt32).bind (fun r17 => bnd (v4 + (1 : Int32)) (fun x19 => bnd (v5 + (3 : Int32)) (fun x21 => fX11_fallsFrom_6 n k r17.2 j1 v3 x19 x21))))))))))))))))
set_option maxHeartbeats 4000000 in
theorem tX11_fallsFrom_6 {p : Program} {l : Launch} {e : Env} {s : State} {m : MethodId} {args : Array Value} {below : List Frame} {meth : Method} {c : Code} {X : WX} (C : Amb 65 X p s m args meth c cX11_fallsFrom 12 RX11) (hr : meth.sig.returnType = some .int) {R : Int32 × St} {n : Nat} : ∀ (k : Nat) (st : St) (j1 : Nat) (v3 : Int32) (v4 : Int32) (v5 : Int32) (H : Heap) (locs : List Loc) (ls : Array Slot), j1 < 6 → Wd EC 65 X s.heap st H locs → lv_has ls 12 [(0, .ref (xq X 0)), (1, .ref (xq X (53 + 2 * j1))), (3, .int v3), (4, .int v4), (5, .int v5)] → fX11_fallsFrom_6 n k st j1 v3 v4 v5 = some R → W p l e { frames := 2, cells := 0, slots := 0, locals := 47 } s m args below meth c H locs 0 0 (QI EC 65 X R.1 R.2 below args s) (F0 m 6 ls []) := by
  obtain ⟨hx, hb, hml, hown, hts⟩ := id C.1
  intro k
  induction k with
  | zero => intro st j1 v3 v4 v5 H locs ls hj1 hw hl hf; exact absurd (show none = some R from hf) (fun z => by cases z)
  | succ k ih =>
    intro st j1 v3 v4 v5 H locs ls hj1 hw hl hf
    rw [fX11_fallsFrom_6] at hf
    refine lv_iload hx hb dX11_fallsFrom_6 (lv_at hl 3 rfl) ?_
    refine lv_iload_n hx hb dX11_fallsFrom_8 rfl (lv_at hl 2 rfl) ?_
    refine lv_icmp_ge (tgt := 131) hx hb dX11_fallsFrom_9 (by decide) (fun c1 => ?_) (fun c1 => ?_)
    · replace hf := ite_t hf c1
      refine lv_iload hx hb dX11_fallsFrom_131 (lv_at hl 3 rfl) ?_
      exact w_iret C hw hr (so2 hf).1 (so2 hf).2 dX11_fallsFrom_133
    · replace hf := ite_f hf c1
      refine lv_iload hx hb dX11_fallsFrom_12 (lv_at hl 4 rfl) ?_
      refine lv_aload_n hx hb dX11_fallsFrom_14 rfl (lv_at hl 1 rfl) ?_
      refine w_get (T := TX7) C hw (by have := hj1; omega) 3 kf_X11_138 (EC_sh X hj1 _ _) rfl inA7 (by decide) rfl dX11_fallsFrom_15 ?_
      refine lv_iconst (v := 3) hx hb dX11_fallsFrom_18 (by decide) ?_
      refine lv_isub hx hb dX11_fallsFrom_19 ?_
      refine lv_icmp_gt (tgt := 131) hx hb dX11_fallsFrom_20 (by decide) (fun c2 => ?_) (fun c2 => ?_)
      · replace hf := ite_t hf c2
        refine lv_iload hx hb dX11_fallsFrom_131 (lv_at hl 3 rfl) ?_
        exact w_iret C hw hr (so2 hf).1 (so2 hf).2 dX11_fallsFrom_133
      · replace hf := ite_f hf c2
        refine lv_aload_n hx hb dX11_fallsFrom_23 rfl (lv_at hl 1 rfl) ?_
        refine w_get (T := TX7) C hw (by have := hj1; omega) 4 kf_X11_141 (EC_sh X hj1 _ _) rfl inA7 (by decide) rfl dX11_fallsFrom_24 ?_
        refine lv_iload hx hb dX11_fallsFrom_27 (lv_at hl 4 rfl) ?_
        obtain ⟨h3, hf⟩ := gd_some hf
        refine w_lald C hw (by have := hj1; omega) (EC_el X hj1 _ _) h3 rfl dX11_fallsFrom_29 ?_
        refine lv_topl (fun x4 e5 => ?_)
        replace hf := bnd_nm hf e5
        refine lv_lstore (lv' := [(6, .long x4), (0, .ref (xq X 0)), (1, .ref (xq X (53 + 2 * j1))), (3, .int v3), (4, .int v4), (5, .int v5)]) hx hb dX11_fallsFrom_30 hl (by decide) rfl (fun ls hl => ?_)
        refine lv_aload_n hx hb dX11_fallsFrom_32 rfl (lv_at hl 2 rfl) ?_
        refine w_get (T := TX7) C hw (by have := hj1; omega) 4 kf_X11_141 (EC_sh X hj1 _ _) rfl inA7 (by decide) rfl dX11_fallsFrom_33 ?_
        refine lv_iload hx hb dX11_fallsFrom_36 (lv_at hl 5 rfl) ?_
        refine lv_iconst (v := 1) hx hb dX11_fallsFrom_38 (by decide) ?_
        refine lv_iadd hx hb dX11_fallsFrom_39 ?_
        obtain ⟨h6, hf⟩ := gd_some hf
        refine w_lald C hw (by have := hj1; omega) (EC_el X hj1 _ _) h6 rfl dX11_fallsFrom_40 ?_
        refine lv_topl (fun x7 e8 => ?_)
        replace hf := bnd_nm hf e8
        refine lv_lstore (lv' := [(8, .long x7), (6, .long x4), (0, .ref (xq X 0)), (1, .ref (xq X (53 + 2 * j1))), (3, .int v3), (4, .int v4), (5, .int v5)]) hx hb dX11_fallsFrom_41 hl (by decide) rfl (fun ls hl => ?_)
        refine lv_aload_n hx hb dX11_fallsFrom_43 rfl (lv_at hl 3 rfl) ?_
        refine w_get (T := TX7) C hw (by have := hj1; omega) 4 kf_X11_141 (EC_sh X hj1 _ _) rfl inA7 (by decide) rfl dX11_fallsFrom_44 ?_
        refine lv_iload hx hb dX11_fallsFrom_47 (lv_at hl 6 rfl) ?_
        refine lv_iconst (v := 2) hx hb dX11_fallsFrom_49 (by decide) ?_
        refine lv_iadd hx hb dX11_fallsFrom_50 ?_
        obtain ⟨h9, hf⟩ := gd_some hf
        refine w_lald C hw (by have := hj1; omega) (EC_el X hj1 _ _) h9 rfl dX11_fallsFrom_51 ?_
        refine lv_topl (fun x10 e11 => ?_)
        replace hf := bnd_nm hf e11
        refine lv_lstore (lv' := [(10, .long x10), (8, .long x7), (6, .long x4), (0, .ref (xq X 0)), (1, .ref (xq X (53 + 2 * j1))), (3, .int v3), (4, .int v4), (5, .int v5)]) hx hb dX11_fallsFrom_52 hl (by decide) rfl (fun ls hl => ?_)
        refine lv_lload hx hb dX11_fallsFrom_54 (lv_at hl 2 rfl) ?_
        refine w_goI hw (w_runS (rest := []) C hw (zX11_isSide _ _ st x4) km_X11_145 kt_yX11_isSide kz_X11 kc_X11_isSide ok_yX11_isSide ⟨Nat.le_of_ble_eq_true rfl, Nat.le_of_ble_eq_true rfl⟩ rfl rfl rfl rfl hl.1 (Nat.le_of_ble_eq_true rfl) dX11_fallsFrom_56 ⟨Nat.zero_le _, Nat.zero_le _⟩) (fun H locs hw => ?_)
        refine lv_if_eq (tgt := 131) hx hb dX11_fallsFrom_59 (by decide) (fun c12 => ?_) (fun c12 => ?_)
        · replace hf := ite_t hf c12
          refine lv_iload hx hb dX11_fallsFrom_131 (lv_at hl 6 rfl) ?_
          exact w_iret C hw hr (so2 hf).1 (so2 hf).2 dX11_fallsFrom_133
        · replace hf := ite_f hf c12
          refine lv_lload hx hb dX11_fallsFrom_62 (lv_at hl 1 rfl) ?_
          refine w_goI hw (w_runS (rest := []) C hw (zX11_isSide _ _ st x7) km_X11_145 kt_yX11_isSide kz_X11 kc_X11_isSide ok_yX11_isSide ⟨Nat.le_of_ble_eq_true rfl, Nat.le_of_ble_eq_true rfl⟩ rfl rfl rfl rfl hl.1 (Nat.le_of_ble_eq_true rfl) dX11_fallsFrom_64 ⟨Nat.zero_le _, Nat.zero_le _⟩) (fun H locs hw => ?_)
          refine lv_if_eq (tgt := 131) hx hb dX11_fallsFrom_67 (by decide) (fun c13 => ?_) (fun c13 => ?_)
          · replace hf := ite_t hf c13
            refine lv_iload hx hb dX11_fallsFrom_131 (lv_at hl 6 rfl) ?_
            exact w_iret C hw hr (so2 hf).1 (so2 hf).2 dX11_fallsFrom_133
          · replace hf := ite_f hf c13
            refine lv_lload hx hb dX11_fallsFrom_70 (lv_at hl 0 rfl) ?_
            refine lv_lconst (v := 0) hx hb dX11_fallsFrom_72 (by decide) ?_
            refine W.lcmp hx hb dX11_fallsFrom_73 ?_
            refine lv_if_lt (tgt := 131) hx hb dX11_fallsFrom_74 (by decide) (fun c14 => ?_) (fun c14 => ?_)
            · replace hf := ite_t hf c14
              refine lv_iload hx hb dX11_fallsFrom_131 (lv_at hl 6 rfl) ?_
              exact w_iret C hw hr (so2 hf).1 (so2 hf).2 dX11_fallsFrom_133
            · replace hf := ite_f hf c14
              refine lv_lload hx hb dX11_fallsFrom_77 (lv_at hl 0 rfl) ?_
              refine lv_ldc2 (v := 1000) hx hb hown (hts _ kn_X11_149) dX11_fallsFrom_79 ?_
              refine W.lcmp hx hb dX11_fallsFrom_82 ?_
              refine lv_if_ge (tgt := 131) hx hb dX11_fallsFrom_83 (by decide) (fun c15 => ?_) (fun c15 => ?_)
              · replace hf := ite_t hf c15
                refine lv_iload hx hb dX11_fallsFrom_131 (lv_at hl 6 rfl) ?_
                exact w_iret C hw hr (so2 hf).1 (so2 hf).2 dX11_fallsFrom_133
              · replace hf := ite_f hf c15
                refine lv_aload_n hx hb dX11_fallsFrom_86 rfl (lv_at hl 3 rfl) ?_
                refine w_get (T := TX11) C hw (by decide) 0 kf_X11_10 (EC_0 X _ _) rfl inA11 (by decide) rfl dX11_fallsFrom_87 ?_
                refine w_get (T := TX3) C hw (by decide) 2 kf_X11_121 (EC_1 X _ _) rfl inA3 (by decide) rfl dX11_fallsFrom_90 ?_
                refine lv_bipush (v := 10) hx hb dX11_fallsFrom_93 (by decide) ?_
                refine lv_icmp_ne (tgt := 101) hx hb dX11_fallsFrom_95 (by decide) (fun c16 => ?_) (fun c16 => ?_)
                · replace hf := ite_f hf c16
                  refine lv_aload_n hx hb dX11_fallsFrom_101 rfl (lv_at hl 3 rfl) ?_
                  refine w_get (T := TX11) C hw (by decide) 0 kf_X11_10 (EC_0 X _ _) rfl inA11 (by decide) rfl dX11_fallsFrom_102 ?_
                  refine lv_bipush (v := 20) hx hb dX11_fallsFrom_105 (by decide) ?_
                  refine lv_lload hx hb dX11_fallsFrom_107 (lv_at hl 1 rfl) ?_
                  refine lv_l2i (v := x7.toInt32) hx hb dX11_fallsFrom_109 rfl ?_
                  refine lv_imul hx hb dX11_fallsFrom_110 ?_
                  refine lv_lload hx hb dX11_fallsFrom_111 (lv_at hl 2 rfl) ?_
                  refine lv_l2i (v := x4.toInt32) hx hb dX11_fallsFrom_113 rfl ?_
                  refine lv_iadd hx hb dX11_fallsFrom_114 ?_
                  refine lv_lload hx hb dX11_fallsFrom_115 (lv_at hl 0 rfl) ?_
                  refine lv_l2i (v := x10.toInt32) hx hb dX11_fallsFrom_117 rfl ?_
                  obtain ⟨r17, k18, hf⟩ := bd_some hf
                  refine w_goI hw (w_runV (rest := []) C hw (zX3_addFall _ _ st (((20 : Int32) * x7.toInt32) + x4.toInt32) x10.toInt32 r17 k18) (by decide) (EC_1 X _ _) rfl km_X11_124 ki_yX3_addFall kv_X3_addFall kz_X3 kc_X3_addFall rfl ok_yX3_addFall ⟨Nat.le_of_ble_eq_true rfl, Nat.le_of_ble_eq_true rfl⟩ rfl rfl rfl rfl hl.1 (Nat.le_of_ble_eq_true rfl) dX11_fallsFrom_118 ⟨Nat.zero_le _, Nat.zero_le _⟩) (fun H locs hw => ?_)
                  refine lv_pop hx hb dX11_fallsFrom_121 rfl ?_
                  obtain ⟨x19, e20⟩ : ∃ z : Int32, z = v4 + (1 : Int32) := ⟨_, rfl⟩
                  replace hf := bnd_nm hf e20
                  refine lv_iinc (v := x19) (lv' := [(4, .int x19), (10, .long x10), (8, .long x7), (6, .long x4), (0, .ref (xq X 0)), (1, .ref (xq X (53 + 2 * j1))), (3, .int v3), (5, .int v5)]) hx hb dX11_fallsFrom_122 hl (k := 6) rfl (by rw [e20]; rfl) (by decide) rfl (fun ls hl => ?_)
                  obtain ⟨x21, e22⟩ : ∃ z : Int32, z = v5 + (3 : Int32) := ⟨_, rfl⟩
                  replace hf := bnd_nm hf e22
                  refine lv_iinc (v := x21) (lv' := [(5, .int x21), (4, .int x19), (10, .long x10), (8, .long x7), (6, .long x4), (0, .ref (xq X 0)), (1, .ref (xq X (53 + 2 * j1))), (3, .int v3)]) hx hb dX11_fallsFrom_125 hl (k := 7) rfl (by rw [e22]; rfl) (by decide) rfl (fun ls hl => ?_)
                  refine lv_goto (tgt := 6) hx hb dX11_fallsFrom_128 (by decide) ?_
                  exact ih r17.2 j1 v3 x19 x21 _ _ _ hj1 hw (lv_sub hl [5, 6, 7, 1, 0] rfl) hf
                · replace hf := ite_t hf c16
                  refine lv_goto (tgt := 131) hx hb dX11_fallsFrom_98 (by decide) ?_
                  refine lv_iload hx hb dX11_fallsFrom_131 (lv_at hl 6 rfl) ?_
                  exact w_iret C hw hr (so2 hf).1 (so2 hf).2 dX11_fallsFrom_133
def fX11_fallsFrom (n : Nat) (st : St) (i1 : Nat) (a2 : Int32) (a3 : Int32) : Option (Int32 × St) := fX11_fallsFrom_6 n n st i1 a3 (0 : Int32) a2
set_option maxHeartbeats 4000000 in
theorem zX11_fallsFrom (l : Launch) (X : WX) (n : Nat) (st : St) (i1 : Nat) (a2 : Int32) (a3 : Int32) (hi1 : i1 < 6) (R : Int32 × St) (hf : fX11_fallsFrom n st i1 a2 a3 = some R) : CtI l yX11_fallsFrom cX11_fallsFrom 12 .int ({ frames := 2, cells := 0, slots := 0, locals := 47 }) EC 65 X [.ref (xq X 0), .ref (xq X (53 + 2 * i1)), .int a2, .int a3] st R.1 R.2 := by
  refine ct_in (own := RX11) (by decide +kernel) rfl (Nat.le_of_ble_eq_true rfl) (fun p e s m below meth c C hr hw ls hl => ?_)
  obtain ⟨hx, hb, hml, hown, hts⟩ := id C.1
  have hl : lv_has ls 12 [(0, .ref (xq X 0)), (1, .ref (xq X (53 + 2 * i1))), (2, .int a2), (3, .int a3)] := hl
  unfold fX11_fallsFrom at hf
  refine lv_iconst (v := 0) hx hb dX11_fallsFrom_0 (by decide) ?_
  refine lv_istore (lv' := [(4, .int (0 : Int32)), (0, .ref (xq X 0)), (1, .ref (xq X (53 + 2 * i1))), (2, .int a2), (3, .int a3)]) hx hb dX11_fallsFrom_1 hl (by decide) rfl (fun ls hl => ?_)
  refine lv_iload_n hx hb dX11_fallsFrom_3 rfl (lv_at hl 3 rfl) ?_
  refine lv_istore (lv' := [(5, .int a2), (4, .int (0 : Int32)), (0, .ref (xq X 0)), (1, .ref (xq X (53 + 2 * i1))), (2, .int a2), (3, .int a3)]) hx hb dX11_fallsFrom_4 hl (by decide) rfl (fun ls hl => ?_)
  exact tX11_fallsFrom_6 C hr n st i1 a3 (0 : Int32) a2 _ _ _ hi1 hw (lv_sub hl [2, 3, 5, 1, 0] rfl) hf
theorem dX11_falls_0 : decode cX11_falls 0 = .ok (.iload_n 1, 1) := by decide +kernel
theorem dX11_falls_1 : decode cX11_falls 1 = .ok (.invokestatic 127, 3) := by decide +kernel
theorem dX11_falls_4 : decode cX11_falls 4 = .ok (.ifCond .eq 13, 3) := by decide +kernel
theorem dX11_falls_7 : decode cX11_falls 7 = .ok (.iload_n 3, 1) := by decide +kernel
theorem dX11_falls_8 : decode cX11_falls 8 = .ok (.iconst 1, 1) := by decide +kernel
theorem dX11_falls_9 : decode cX11_falls 9 = .ok (.bipush 10, 2) := by decide +kernel
theorem dX11_falls_11 : decode cX11_falls 11 = .ok (.invokestatic 117, 3) := by decide +kernel
theorem dX11_falls_14 : decode cX11_falls 14 = .ok (.ifCond .ne 5, 3) := by decide +kernel
theorem dX11_falls_17 : decode cX11_falls 17 = .ok (.iconst (-1), 1) := by decide +kernel
theorem dX11_falls_18 : decode cX11_falls 18 = .ok (.ireturn, 1) := by decide +kernel
theorem dX11_falls_19 : decode cX11_falls 19 = .ok (.aload_n 0, 1) := by decide +kernel
theorem dX11_falls_20 : decode cX11_falls 20 = .ok (.getfield 98, 3) := by decide +kernel
theorem dX11_falls_23 : decode cX11_falls 23 = .ok (.iload_n 1, 1) := by decide +kernel
theorem dX11_falls_24 : decode cX11_falls 24 = .ok (.aaload, 1) := by decide +kernel
theorem dX11_falls_25 : decode cX11_falls 25 = .ok (.iconst 1, 1) := by decide +kernel
theorem dX11_falls_26 : decode cX11_falls 26 = .ok (.invokevirtual 130, 3) := by decide +kernel
theorem dX11_falls_29 : decode cX11_falls 29 = .ok (.istore 4, 2) := by decide +kernel
theorem dX11_falls_31 : decode cX11_falls 31 = .ok (.iload 4, 2) := by decide +kernel
theorem dX11_falls_33 : decode cX11_falls 33 = .ok (.bipush (-12), 2) := by decide +kernel
theorem dX11_falls_35 : decode cX11_falls 35 = .ok (.if_icmp .ne 6, 3) := by decide +kernel
theorem dX11_falls_38 : decode cX11_falls 38 = .ok (.bipush (-12), 2) := by decide +kernel
theorem dX11_falls_40 : decode cX11_falls 40 = .ok (.ireturn, 1) := by decide +kernel
theorem dX11_falls_41 : decode cX11_falls 41 = .ok (.iload 4, 2) := by decide +kernel
theorem dX11_falls_43 : decode cX11_falls 43 = .ok (.ifCond .ne 7, 3) := by decide +kernel
theorem dX11_falls_46 : decode cX11_falls 46 = .ok (.iload_n 2, 1) := by decide +kernel
theorem dX11_falls_47 : decode cX11_falls 47 = .ok (.ifCond .ge 7, 3) := by decide +kernel
theorem dX11_falls_50 : decode cX11_falls 50 = .ok (.iconst 0, 1) := by decide +kernel
theorem dX11_falls_51 : decode cX11_falls 51 = .ok (.goto 15, 3) := by decide +kernel
theorem dX11_falls_54 : decode cX11_falls 54 = .ok (.aload_n 0, 1) := by decide +kernel
theorem dX11_falls_55 : decode cX11_falls 55 = .ok (.aload_n 0, 1) := by decide +kernel
theorem dX11_falls_56 : decode cX11_falls 56 = .ok (.getfield 98, 3) := by decide +kernel
theorem dX11_falls_59 : decode cX11_falls 59 = .ok (.iload_n 1, 1) := by decide +kernel
theorem dX11_falls_60 : decode cX11_falls 60 = .ok (.aaload, 1) := by decide +kernel
theorem dX11_falls_61 : decode cX11_falls 61 = .ok (.iload_n 2, 1) := by decide +kernel
theorem dX11_falls_62 : decode cX11_falls 62 = .ok (.iload_n 3, 1) := by decide +kernel
theorem dX11_falls_63 : decode cX11_falls 63 = .ok (.invokevirtual 134, 3) := by decide +kernel
theorem dX11_falls_66 : decode cX11_falls 66 = .ok (.ireturn, 1) := by decide +kernel
theorem ok_yX11_falls : yOk yX11_falls 3 := ⟨by decide +kernel, by decide +kernel, by decide +kernel⟩
def fX11_falls (n : Nat) (st : St) (a1 : Int32) (a2 : Int32) (a3 : Int32) : Option (Int32 × St) := if bI (fX11_isShelf a1) = 0 then (some ((-1 : Int32), st)) else (if bI (fX11_isWithin a3 (1 : Int32) (10 : Int32)) = 0 then (some ((-1 : Int32), st)) else (gd (inB a1 6) (bnd ((fX7_refusalOfRow st a1.toNatClampNeg (1 : Int32))) (fun x4 => if x4 = (-12 : Int32) then (some ((-12 : Int32), st)) else (if x4 = 0 then (if 0 ≤ a2 then (gd (inB a1 6) ((fX11_fallsFrom n st a1.toNatClampNeg a2 a3).bind (fun r10 => some (r10.1, r10.2)))) else (some ((0 : Int32), st))) else (some ((0 : Int32), st)))))))
set_option maxHeartbeats 4000000 in
theorem zX11_falls (l : Launch) (X : WX) (n : Nat) (st : St) (a1 : Int32) (a2 : Int32) (a3 : Int32) (R : Int32 × St) (hf : fX11_falls n st a1 a2 a3 = some R) : CtI l yX11_falls cX11_falls 5 .int ({ frames := 3, cells := 0, slots := 0, locals := 78 }) EC 65 X [.ref (xq X 0), .int a1, .int a2, .int a3] st R.1 R.2 := by
  refine ct_in (own := RX11) (by decide +kernel) rfl (Nat.le_of_ble_eq_true rfl) (fun p e s m below meth c C hr hw ls hl => ?_)
  obtain ⟨hx, hb, hml, hown, hts⟩ := id C.1
  have hl : lv_has ls 5 [(0, .ref (xq X 0)), (1, .int a1), (2, .int a2), (3, .int a3)] := hl
  unfold fX11_falls at hf
  refine lv_iload_n hx hb dX11_falls_0 rfl (lv_at hl 1 rfl) ?_
  refine w_goI hw (w_runS (rest := []) C hw (zX11_isShelf _ _ st a1) km_X11_127 kt_yX11_isShelf kz_X11 kc_X11_isShelf ok_yX11_isShelf ⟨Nat.le_of_ble_eq_true rfl, Nat.le_of_ble_eq_true rfl⟩ rfl rfl rfl rfl hl.1 (Nat.le_of_ble_eq_true rfl) dX11_falls_1 ⟨Nat.zero_le _, Nat.zero_le _⟩) (fun H locs hw => ?_)
  refine lv_if_eq (tgt := 17) hx hb dX11_falls_4 (by decide) (fun c1 => ?_) (fun c1 => ?_)
  · replace hf := ite_t hf c1
    refine lv_iconst (v := -1) hx hb dX11_falls_17 (by decide) ?_
    exact w_iret C hw hr (so2 hf).1 (so2 hf).2 dX11_falls_18
  · replace hf := ite_f hf c1
    refine lv_iload_n hx hb dX11_falls_7 rfl (lv_at hl 3 rfl) ?_
    refine lv_iconst (v := 1) hx hb dX11_falls_8 (by decide) ?_
    refine lv_bipush (v := 10) hx hb dX11_falls_9 (by decide) ?_
    refine w_goI hw (w_runS (rest := []) C hw (zX11_isWithin _ _ st a3 (1 : Int32) (10 : Int32)) km_X11_117 kt_yX11_isWithin kz_X11 kc_X11_isWithin ok_yX11_isWithin ⟨Nat.le_of_ble_eq_true rfl, Nat.le_of_ble_eq_true rfl⟩ rfl rfl rfl rfl hl.1 (Nat.le_of_ble_eq_true rfl) dX11_falls_11 ⟨Nat.zero_le _, Nat.zero_le _⟩) (fun H locs hw => ?_)
    refine lv_if_ne (tgt := 19) hx hb dX11_falls_14 (by decide) (fun c2 => ?_) (fun c2 => ?_)
    · replace hf := ite_f hf c2
      refine lv_aload_n hx hb dX11_falls_19 rfl (lv_at hl 0 rfl) ?_
      refine w_get (T := TX11) C hw (by decide) 13 kf_X11_98 (EC_0 X _ _) rfl inA11 (by decide) rfl dX11_falls_20 ?_
      refine lv_iload_n hx hb dX11_falls_23 rfl (lv_at hl 1 rfl) ?_
      obtain ⟨h3, hf⟩ := gd_some hf
      refine w_aald (k' := (53 + 2 * a1.toNatClampNeg)) C hw (by decide) (EC_52 X _ _) rfl rfl h3 rfl dX11_falls_24 ?_
      refine lv_iconst (v := 1) hx hb dX11_falls_25 (by decide) ?_
      refine w_goI hw (w_runV (rest := []) C hw (zX7_refusalOfRow _ _ st a1.toNatClampNeg (1 : Int32) (inB_lt h3)) (by have := (inB_lt h3); omega) (EC_sh X (inB_lt h3) _ _) rfl km_X11_130 ki_yX7_refusalOfRow kv_X7_refusalOfRow kz_X7 kc_X7_refusalOfRow rfl ok_yX7_refusalOfRow ⟨Nat.le_of_ble_eq_true rfl, Nat.le_of_ble_eq_true rfl⟩ rfl rfl rfl rfl hl.1 (Nat.le_of_ble_eq_true rfl) dX11_falls_26 ⟨Nat.zero_le _, Nat.zero_le _⟩) (fun H locs hw => ?_)
      refine lv_topi (fun x4 e5 => ?_)
      replace hf := bnd_nm hf e5
      refine lv_istore (lv' := [(4, .int x4), (0, .ref (xq X 0)), (1, .int a1), (2, .int a2), (3, .int a3)]) hx hb dX11_falls_29 hl (by decide) rfl (fun ls hl => ?_)
      refine lv_iload hx hb dX11_falls_31 (lv_at hl 0 rfl) ?_
      refine lv_bipush (v := -12) hx hb dX11_falls_33 (by decide) ?_
      refine lv_icmp_ne (tgt := 41) hx hb dX11_falls_35 (by decide) (fun c6 => ?_) (fun c6 => ?_)
      · replace hf := ite_f hf c6
        refine lv_iload hx hb dX11_falls_41 (lv_at hl 0 rfl) ?_
        refine lv_if_ne (tgt := 50) hx hb dX11_falls_43 (by decide) (fun c7 => ?_) (fun c7 => ?_)
        · replace hf := ite_f hf c7
          refine lv_iconst (v := 0) hx hb dX11_falls_50 (by decide) ?_
          refine lv_goto (tgt := 66) hx hb dX11_falls_51 (by decide) ?_
          exact w_iret C hw hr (so2 hf).1 (so2 hf).2 dX11_falls_66
        · replace hf := ite_t hf c7
          refine lv_iload_n hx hb dX11_falls_46 rfl (lv_at hl 3 rfl) ?_
          refine lv_if_ge (tgt := 54) hx hb dX11_falls_47 (by decide) (fun c8 => ?_) (fun c8 => ?_)
          · replace hf := ite_t hf c8
            refine lv_aload_n hx hb dX11_falls_54 rfl (lv_at hl 1 rfl) ?_
            refine lv_aload_n hx hb dX11_falls_55 rfl (lv_at hl 1 rfl) ?_
            refine w_get (T := TX11) C hw (by decide) 13 kf_X11_98 (EC_0 X _ _) rfl inA11 (by decide) rfl dX11_falls_56 ?_
            refine lv_iload_n hx hb dX11_falls_59 rfl (lv_at hl 2 rfl) ?_
            obtain ⟨h9, hf⟩ := gd_some hf
            refine w_aald (k' := (53 + 2 * a1.toNatClampNeg)) C hw (by decide) (EC_52 X _ _) rfl rfl h9 rfl dX11_falls_60 ?_
            refine lv_iload_n hx hb dX11_falls_61 rfl (lv_at hl 3 rfl) ?_
            refine lv_iload_n hx hb dX11_falls_62 rfl (lv_at hl 4 rfl) ?_
            obtain ⟨r10, k11, hf⟩ := bd_some hf
            refine w_goI hw (w_runV (rest := []) C hw (zX11_fallsFrom _ _ n st a1.toNatClampNeg a2 a3 (inB_lt h9) r10 k11) (by decide) (EC_0 X _ _) rfl km_X11_134 ki_yX11_fallsFrom kv_X11_fallsFrom kz_X11 kc_X11_fallsFrom rfl ok_yX11_fallsFrom ⟨Nat.le_of_ble_eq_true rfl, Nat.le_of_ble_eq_true rfl⟩ rfl rfl rfl rfl hl.1 (Nat.le_of_ble_eq_true rfl) dX11_falls_63 ⟨Nat.zero_le _, Nat.zero_le _⟩) (fun H locs hw => ?_)
            exact w_iret C hw hr (so2 hf).1 (so2 hf).2 dX11_falls_66
          · replace hf := ite_f hf c8
            refine lv_iconst (v := 0) hx hb dX11_falls_50 (by decide) ?_
            refine lv_goto (tgt := 66) hx hb dX11_falls_51 (by decide) ?_
            exact w_iret C hw hr (so2 hf).1 (so2 hf).2 dX11_falls_66
      · replace hf := ite_t hf c6
        refine lv_bipush (v := -12) hx hb dX11_falls_38 (by decide) ?_
        exact w_iret C hw hr (so2 hf).1 (so2 hf).2 dX11_falls_40
    · replace hf := ite_t hf c2
      refine lv_iconst (v := -1) hx hb dX11_falls_17 (by decide) ?_
      exact w_iret C hw hr (so2 hf).1 (so2 hf).2 dX11_falls_18
theorem dX11_cry_0 : decode cX11_cry 0 = .ok (.iload_n 1, 1) := by decide +kernel
theorem dX11_cry_1 : decode cX11_cry 1 = .ok (.invokestatic 151, 3) := by decide +kernel
theorem dX11_cry_4 : decode cX11_cry 4 = .ok (.ifCond .eq 14, 3) := by decide +kernel
theorem dX11_cry_7 : decode cX11_cry 7 = .ok (.iload_n 2, 1) := by decide +kernel
theorem dX11_cry_8 : decode cX11_cry 8 = .ok (.iconst 0, 1) := by decide +kernel
theorem dX11_cry_9 : decode cX11_cry 9 = .ok (.sipush 999, 3) := by decide +kernel
theorem dX11_cry_12 : decode cX11_cry 12 = .ok (.invokestatic 117, 3) := by decide +kernel
theorem dX11_cry_15 : decode cX11_cry 15 = .ok (.ifCond .ne 5, 3) := by decide +kernel
theorem dX11_cry_18 : decode cX11_cry 18 = .ok (.iconst (-1), 1) := by decide +kernel
theorem dX11_cry_19 : decode cX11_cry 19 = .ok (.ireturn, 1) := by decide +kernel
theorem dX11_cry_20 : decode cX11_cry 20 = .ok (.aload_n 0, 1) := by decide +kernel
theorem dX11_cry_21 : decode cX11_cry 21 = .ok (.getfield 10, 3) := by decide +kernel
theorem dX11_cry_24 : decode cX11_cry 24 = .ok (.getfield 154, 3) := by decide +kernel
theorem dX11_cry_27 : decode cX11_cry 27 = .ok (.bipush 12, 2) := by decide +kernel
theorem dX11_cry_29 : decode cX11_cry 29 = .ok (.if_icmp .ne 8, 3) := by decide +kernel
theorem dX11_cry_32 : decode cX11_cry 32 = .ok (.bipush (-3), 2) := by decide +kernel
theorem dX11_cry_34 : decode cX11_cry 34 = .ok (.goto 12, 3) := by decide +kernel
theorem dX11_cry_37 : decode cX11_cry 37 = .ok (.aload_n 0, 1) := by decide +kernel
theorem dX11_cry_38 : decode cX11_cry 38 = .ok (.getfield 10, 3) := by decide +kernel
theorem dX11_cry_41 : decode cX11_cry 41 = .ok (.iload_n 1, 1) := by decide +kernel
theorem dX11_cry_42 : decode cX11_cry 42 = .ok (.iload_n 2, 1) := by decide +kernel
theorem dX11_cry_43 : decode cX11_cry 43 = .ok (.invokevirtual 157, 3) := by decide +kernel
theorem dX11_cry_46 : decode cX11_cry 46 = .ok (.ireturn, 1) := by decide +kernel
theorem ok_yX11_cry : yOk yX11_cry 2 := ⟨by decide +kernel, by decide +kernel, by decide +kernel⟩
def fX11_cry (st : St) (a1 : Int32) (a2 : Int32) : Option (Int32 × St) := if bI (fX11_isPerson a1) = 0 then (some ((-1 : Int32), st)) else (if bI (fX11_isWithin a2 (0 : Int32) (999 : Int32)) = 0 then (some ((-1 : Int32), st)) else (if gI st 1 3 = (12 : Int32) then (some ((-3 : Int32), st)) else ((fX3_addCry st a1 a2).bind (fun r4 => some (r4.1, r4.2)))))
set_option maxHeartbeats 4000000 in
theorem zX11_cry (l : Launch) (X : WX) (st : St) (a1 : Int32) (a2 : Int32) (R : Int32 × St) (hf : fX11_cry st a1 a2 = some R) : CtI l yX11_cry cX11_cry 3 .int ({ frames := 2, cells := 0, slots := 0, locals := 48 }) EC 65 X [.ref (xq X 0), .int a1, .int a2] st R.1 R.2 := by
  refine ct_in (own := RX11) (by decide +kernel) rfl (Nat.le_of_ble_eq_true rfl) (fun p e s m below meth c C hr hw ls hl => ?_)
  obtain ⟨hx, hb, hml, hown, hts⟩ := id C.1
  have hl : lv_has ls 3 [(0, .ref (xq X 0)), (1, .int a1), (2, .int a2)] := hl
  unfold fX11_cry at hf
  refine lv_iload_n hx hb dX11_cry_0 rfl (lv_at hl 1 rfl) ?_
  refine w_goI hw (w_runS (rest := []) C hw (zX11_isPerson _ _ st a1) km_X11_151 kt_yX11_isPerson kz_X11 kc_X11_isPerson ok_yX11_isPerson ⟨Nat.le_of_ble_eq_true rfl, Nat.le_of_ble_eq_true rfl⟩ rfl rfl rfl rfl hl.1 (Nat.le_of_ble_eq_true rfl) dX11_cry_1 ⟨Nat.zero_le _, Nat.zero_le _⟩) (fun H locs hw => ?_)
  refine lv_if_eq (tgt := 18) hx hb dX11_cry_4 (by decide) (fun c1 => ?_) (fun c1 => ?_)
  · replace hf := ite_t hf c1
    refine lv_iconst (v := -1) hx hb dX11_cry_18 (by decide) ?_
    exact w_iret C hw hr (so2 hf).1 (so2 hf).2 dX11_cry_19
  · replace hf := ite_f hf c1
    refine lv_iload_n hx hb dX11_cry_7 rfl (lv_at hl 2 rfl) ?_
    refine lv_iconst (v := 0) hx hb dX11_cry_8 (by decide) ?_
    refine lv_sipush (v := 999) hx hb dX11_cry_9 (by decide) ?_
    refine w_goI hw (w_runS (rest := []) C hw (zX11_isWithin _ _ st a2 (0 : Int32) (999 : Int32)) km_X11_117 kt_yX11_isWithin kz_X11 kc_X11_isWithin ok_yX11_isWithin ⟨Nat.le_of_ble_eq_true rfl, Nat.le_of_ble_eq_true rfl⟩ rfl rfl rfl rfl hl.1 (Nat.le_of_ble_eq_true rfl) dX11_cry_12 ⟨Nat.zero_le _, Nat.zero_le _⟩) (fun H locs hw => ?_)
    refine lv_if_ne (tgt := 20) hx hb dX11_cry_15 (by decide) (fun c2 => ?_) (fun c2 => ?_)
    · replace hf := ite_f hf c2
      refine lv_aload_n hx hb dX11_cry_20 rfl (lv_at hl 0 rfl) ?_
      refine w_get (T := TX11) C hw (by decide) 0 kf_X11_10 (EC_0 X _ _) rfl inA11 (by decide) rfl dX11_cry_21 ?_
      refine w_get (T := TX3) C hw (by decide) 3 kf_X11_154 (EC_1 X _ _) rfl inA3 (by decide) rfl dX11_cry_24 ?_
      refine lv_bipush (v := 12) hx hb dX11_cry_27 (by decide) ?_
      refine lv_icmp_ne (tgt := 37) hx hb dX11_cry_29 (by decide) (fun c3 => ?_) (fun c3 => ?_)
      · replace hf := ite_f hf c3
        refine lv_aload_n hx hb dX11_cry_37 rfl (lv_at hl 0 rfl) ?_
        refine w_get (T := TX11) C hw (by decide) 0 kf_X11_10 (EC_0 X _ _) rfl inA11 (by decide) rfl dX11_cry_38 ?_
        refine lv_iload_n hx hb dX11_cry_41 rfl (lv_at hl 1 rfl) ?_
        refine lv_iload_n hx hb dX11_cry_42 rfl (lv_at hl 2 rfl) ?_
        obtain ⟨r4, k5, hf⟩ := bd_some hf
        refine w_goI hw (w_runV (rest := []) C hw (zX3_addCry _ _ st a1 a2 r4 k5) (by decide) (EC_1 X _ _) rfl km_X11_157 ki_yX3_addCry kv_X3_addCry kz_X3 kc_X3_addCry rfl ok_yX3_addCry ⟨Nat.le_of_ble_eq_true rfl, Nat.le_of_ble_eq_true rfl⟩ rfl rfl rfl rfl hl.1 (Nat.le_of_ble_eq_true rfl) dX11_cry_43 ⟨Nat.zero_le _, Nat.zero_le _⟩) (fun H locs hw => ?_)
        exact w_iret C hw hr (so2 hf).1 (so2 hf).2 dX11_cry_46
      · replace hf := ite_t hf c3
        refine lv_bipush (v := -3) hx hb dX11_cry_32 (by decide) ?_
        refine lv_goto (tgt := 46) hx hb dX11_cry_34 (by decide) ?_
        exact w_iret C hw hr (so2 hf).1 (so2 hf).2 dX11_cry_46
    · replace hf := ite_t hf c2
      refine lv_iconst (v := -1) hx hb dX11_cry_18 (by decide) ?_
      exact w_iret C hw hr (so2 hf).1 (so2 hf).2 dX11_cry_19
theorem dX11_mend_0 : decode cX11_mend 0 = .ok (.aload_n 0, 1) := by decide +kernel
theorem dX11_mend_1 : decode cX11_mend 1 = .ok (.getfield 10, 3) := by decide +kernel
theorem dX11_mend_4 : decode cX11_mend 4 = .ok (.iload_n 1, 1) := by decide +kernel
theorem dX11_mend_5 : decode cX11_mend 5 = .ok (.iload_n 2, 1) := by decide +kernel
theorem dX11_mend_6 : decode cX11_mend 6 = .ok (.invokevirtual 160, 3) := by decide +kernel
theorem dX11_mend_9 : decode cX11_mend 9 = .ok (.ifCond .eq 20, 3) := by decide +kernel
theorem dX11_mend_12 : decode cX11_mend 12 = .ok (.iload_n 3, 1) := by decide +kernel
theorem dX11_mend_13 : decode cX11_mend 13 = .ok (.getstatic 164, 3) := by decide +kernel
theorem dX11_mend_16 : decode cX11_mend 16 = .ok (.iload_n 2, 1) := by decide +kernel
theorem dX11_mend_17 : decode cX11_mend 17 = .ok (.iaload, 1) := by decide +kernel
theorem dX11_mend_18 : decode cX11_mend 18 = .ok (.getstatic 167, 3) := by decide +kernel
theorem dX11_mend_21 : decode cX11_mend 21 = .ok (.iload_n 2, 1) := by decide +kernel
theorem dX11_mend_22 : decode cX11_mend 22 = .ok (.iaload, 1) := by decide +kernel
theorem dX11_mend_23 : decode cX11_mend 23 = .ok (.invokestatic 117, 3) := by decide +kernel
theorem dX11_mend_26 : decode cX11_mend 26 = .ok (.ifCond .ne 6, 3) := by decide +kernel
theorem dX11_mend_29 : decode cX11_mend 29 = .ok (.ldc 170, 2) := by decide +kernel
theorem dX11_mend_31 : decode cX11_mend 31 = .ok (.ireturn, 1) := by decide +kernel
theorem dX11_mend_32 : decode cX11_mend 32 = .ok (.aload_n 0, 1) := by decide +kernel
theorem dX11_mend_33 : decode cX11_mend 33 = .ok (.getfield 10, 3) := by decide +kernel
theorem dX11_mend_36 : decode cX11_mend 36 = .ok (.getfield 171, 3) := by decide +kernel
theorem dX11_mend_39 : decode cX11_mend 39 = .ok (.iload_n 2, 1) := by decide +kernel
theorem dX11_mend_40 : decode cX11_mend 40 = .ok (.aaload, 1) := by decide +kernel
theorem dX11_mend_41 : decode cX11_mend 41 = .ok (.iload_n 1, 1) := by decide +kernel
theorem dX11_mend_42 : decode cX11_mend 42 = .ok (.iaload, 1) := by decide +kernel
theorem dX11_mend_43 : decode cX11_mend 43 = .ok (.istore 4, 2) := by decide +kernel
theorem dX11_mend_45 : decode cX11_mend 45 = .ok (.iload 4, 2) := by decide +kernel
theorem dX11_mend_47 : decode cX11_mend 47 = .ok (.iload_n 3, 1) := by decide +kernel
theorem dX11_mend_48 : decode cX11_mend 48 = .ok (.if_icmp .eq 27, 3) := by decide +kernel
theorem dX11_mend_51 : decode cX11_mend 51 = .ok (.aload_n 0, 1) := by decide +kernel
theorem dX11_mend_52 : decode cX11_mend 52 = .ok (.getfield 10, 3) := by decide +kernel
theorem dX11_mend_55 : decode cX11_mend 55 = .ok (.getfield 171, 3) := by decide +kernel
theorem dX11_mend_58 : decode cX11_mend 58 = .ok (.iload_n 2, 1) := by decide +kernel
theorem dX11_mend_59 : decode cX11_mend 59 = .ok (.aaload, 1) := by decide +kernel
theorem dX11_mend_60 : decode cX11_mend 60 = .ok (.iload_n 1, 1) := by decide +kernel
theorem dX11_mend_61 : decode cX11_mend 61 = .ok (.iload_n 3, 1) := by decide +kernel
theorem dX11_mend_62 : decode cX11_mend 62 = .ok (.iastore, 1) := by decide +kernel
theorem dX11_mend_63 : decode cX11_mend 63 = .ok (.aload_n 0, 1) := by decide +kernel
theorem dX11_mend_64 : decode cX11_mend 64 = .ok (.getfield 85, 3) := by decide +kernel
theorem dX11_mend_67 : decode cX11_mend 67 = .ok (.iload_n 1, 1) := by decide +kernel
theorem dX11_mend_68 : decode cX11_mend 68 = .ok (.iload_n 2, 1) := by decide +kernel
theorem dX11_mend_69 : decode cX11_mend 69 = .ok (.iload 4, 2) := by decide +kernel
theorem dX11_mend_71 : decode cX11_mend 71 = .ok (.iload_n 3, 1) := by decide +kernel
theorem dX11_mend_72 : decode cX11_mend 72 = .ok (.invokevirtual 175, 3) := by decide +kernel
theorem dX11_mend_75 : decode cX11_mend 75 = .ok (.iload 4, 2) := by decide +kernel
theorem dX11_mend_77 : decode cX11_mend 77 = .ok (.ireturn, 1) := by decide +kernel
theorem ok_yX11_mend : yOk yX11_mend 3 := ⟨by decide +kernel, by decide +kernel, by decide +kernel⟩
def fX11_mend (st : St) (a1 : Int32) (a2 : Int32) (a3 : Int32) : Option (Int32 × St) := if bI (fX3_has st a1 a2) = 0 then (some ((-2000000000 : Int32), st)) else (gd (inB a2 14) (gd (inB a2 14) (if bI (fX11_isWithin a3 (tb tLEAST a2.toNatClampNeg) (tb tMOST a2.toNatClampNeg)) = 0 then (some ((-2000000000 : Int32), st)) else (gd (inB a2 14) (gd (inB a1 13) (bnd (gI st (3 + a2.toNatClampNeg) a1.toNatClampNeg) (fun x7 => if x7 = a3 then (some (x7, st)) else (gd (inB a2 14) (gd (inB a1 13) (bnd (sI st (3 + a2.toNatClampNeg) a1.toNatClampNeg a3) (fun st12 => (fX1_add st12 a1 a2 x7 a3).bind (fun r14 => some (x7, r14)))))))))))))
set_option maxHeartbeats 4000000 in
theorem zX11_mend (l : Launch) (X : WX) (st : St) (a1 : Int32) (a2 : Int32) (a3 : Int32) (R : Int32 × St) (hf : fX11_mend st a1 a2 a3 = some R) : CtI l yX11_mend cX11_mend 5 .int ({ frames := 3, cells := 0, slots := 0, locals := 108 }) EC 65 X [.ref (xq X 0), .int a1, .int a2, .int a3] st R.1 R.2 := by
  refine ct_in (own := RX11) (by decide +kernel) rfl (Nat.le_of_ble_eq_true rfl) (fun p e s m below meth c C hr hw ls hl => ?_)
  obtain ⟨hx, hb, hml, hown, hts⟩ := id C.1
  have hl : lv_has ls 5 [(0, .ref (xq X 0)), (1, .int a1), (2, .int a2), (3, .int a3)] := hl
  unfold fX11_mend at hf
  refine lv_aload_n hx hb dX11_mend_0 rfl (lv_at hl 0 rfl) ?_
  refine w_get (T := TX11) C hw (by decide) 0 kf_X11_10 (EC_0 X _ _) rfl inA11 (by decide) rfl dX11_mend_1 ?_
  refine lv_iload_n hx hb dX11_mend_4 rfl (lv_at hl 1 rfl) ?_
  refine lv_iload_n hx hb dX11_mend_5 rfl (lv_at hl 2 rfl) ?_
  refine w_goI hw (w_runV (rest := []) C hw (zX3_has _ _ st a1 a2) (by decide) (EC_1 X _ _) rfl km_X11_160 ki_yX3_has kv_X3_has kz_X3 kc_X3_has rfl ok_yX3_has ⟨Nat.le_of_ble_eq_true rfl, Nat.le_of_ble_eq_true rfl⟩ rfl rfl rfl rfl hl.1 (Nat.le_of_ble_eq_true rfl) dX11_mend_6 ⟨Nat.zero_le _, Nat.zero_le _⟩) (fun H locs hw => ?_)
  refine lv_if_eq (tgt := 29) hx hb dX11_mend_9 (by decide) (fun c1 => ?_) (fun c1 => ?_)
  · replace hf := ite_t hf c1
    refine lv_ldc (v := -2000000000) hx hb hown (hts _ kn_X11_170) dX11_mend_29 ?_
    exact w_iret C hw hr (so2 hf).1 (so2 hf).2 dX11_mend_31
  · replace hf := ite_f hf c1
    refine lv_iload_n hx hb dX11_mend_12 rfl (lv_at hl 3 rfl) ?_
    refine w_gets C hw C.2.2.1.2.1 kf_X11_164 dX11_mend_13 ?_
    refine lv_iload_n hx hb dX11_mend_16 rfl (lv_at hl 2 rfl) ?_
    obtain ⟨h2, hf⟩ := gd_some hf
    refine w_tald C hw C.2.2.1.2.1 h2 rfl dX11_mend_17 ?_
    refine w_gets C hw C.2.2.1.2.2.1 kf_X11_167 dX11_mend_18 ?_
    refine lv_iload_n hx hb dX11_mend_21 rfl (lv_at hl 2 rfl) ?_
    obtain ⟨h3, hf⟩ := gd_some hf
    refine w_tald C hw C.2.2.1.2.2.1 h3 rfl dX11_mend_22 ?_
    refine w_goI hw (w_runS (rest := []) C hw (zX11_isWithin _ _ st a3 (tb tLEAST a2.toNatClampNeg) (tb tMOST a2.toNatClampNeg)) km_X11_117 kt_yX11_isWithin kz_X11 kc_X11_isWithin ok_yX11_isWithin ⟨Nat.le_of_ble_eq_true rfl, Nat.le_of_ble_eq_true rfl⟩ rfl rfl rfl rfl hl.1 (Nat.le_of_ble_eq_true rfl) dX11_mend_23 ⟨Nat.zero_le _, Nat.zero_le _⟩) (fun H locs hw => ?_)
    refine lv_if_ne (tgt := 32) hx hb dX11_mend_26 (by decide) (fun c4 => ?_) (fun c4 => ?_)
    · replace hf := ite_f hf c4
      refine lv_aload_n hx hb dX11_mend_32 rfl (lv_at hl 0 rfl) ?_
      refine w_get (T := TX11) C hw (by decide) 0 kf_X11_10 (EC_0 X _ _) rfl inA11 (by decide) rfl dX11_mend_33 ?_
      refine w_get (T := TX3) C hw (by decide) 0 kf_X11_171 (EC_1 X _ _) rfl inA3 (by decide) rfl dX11_mend_36 ?_
      refine lv_iload_n hx hb dX11_mend_39 rfl (lv_at hl 2 rfl) ?_
      obtain ⟨h5, hf⟩ := gd_some hf
      refine w_aald (k' := (3 + a2.toNatClampNeg)) C hw (by decide) (EC_2 X _ _) rfl rfl h5 rfl dX11_mend_40 ?_
      refine lv_iload_n hx hb dX11_mend_41 rfl (lv_at hl 1 rfl) ?_
      obtain ⟨h6, hf⟩ := gd_some hf
      refine w_iald C hw (EC_rowN h5) (EC_row X h5 _ _) h6 rfl dX11_mend_42 ?_
      refine lv_topi (fun x7 e8 => ?_)
      replace hf := bnd_nm hf e8
      refine lv_istore (lv' := [(4, .int x7), (0, .ref (xq X 0)), (1, .int a1), (2, .int a2), (3, .int a3)]) hx hb dX11_mend_43 hl (by decide) rfl (fun ls hl => ?_)
      refine lv_iload hx hb dX11_mend_45 (lv_at hl 0 rfl) ?_
      refine lv_iload_n hx hb dX11_mend_47 rfl (lv_at hl 4 rfl) ?_
      refine lv_icmp_eq (tgt := 75) hx hb dX11_mend_48 (by decide) (fun c9 => ?_) (fun c9 => ?_)
      · replace hf := ite_t hf c9
        refine lv_iload hx hb dX11_mend_75 (lv_at hl 0 rfl) ?_
        exact w_iret C hw hr (so2 hf).1 (so2 hf).2 dX11_mend_77
      · replace hf := ite_f hf c9
        refine lv_aload_n hx hb dX11_mend_51 rfl (lv_at hl 1 rfl) ?_
        refine w_get (T := TX11) C hw (by decide) 0 kf_X11_10 (EC_0 X _ _) rfl inA11 (by decide) rfl dX11_mend_52 ?_
        refine w_get (T := TX3) C hw (by decide) 0 kf_X11_171 (EC_1 X _ _) rfl inA3 (by decide) rfl dX11_mend_55 ?_
        refine lv_iload_n hx hb dX11_mend_58 rfl (lv_at hl 3 rfl) ?_
        obtain ⟨h10, hf⟩ := gd_some hf
        refine w_aald (k' := (3 + a2.toNatClampNeg)) C hw (by decide) (EC_2 X _ _) rfl rfl h10 rfl dX11_mend_59 ?_
        refine lv_iload_n hx hb dX11_mend_60 rfl (lv_at hl 2 rfl) ?_
        refine lv_iload_n hx hb dX11_mend_61 rfl (lv_at hl 4 rfl) ?_
        obtain ⟨h11, hf⟩ := gd_some hf
        obtain ⟨st12, es13⟩ : ∃ z : St, z = sI st (3 + a2.toNatClampNeg) a1.toNatClampNeg a3 := ⟨_, rfl⟩
        replace hf := bnd_nm hf es13
        refine w_iast C hw (EC_rowN h10) (fun f9 => EC_row X h10 f9 _) h11 rfl dX11_mend_62 (fun H locs hw => ?_)
        rw [← es13] at hw
        refine lv_aload_n hx hb dX11_mend_63 rfl (lv_at hl 1 rfl) ?_
        refine w_get (T := TX11) C hw (by decide) 11 kf_X11_85 (EC_0 X _ _) rfl inA11 (by decide) rfl dX11_mend_64 ?_
        refine lv_iload_n hx hb dX11_mend_67 rfl (lv_at hl 2 rfl) ?_
        refine lv_iload_n hx hb dX11_mend_68 rfl (lv_at hl 3 rfl) ?_
        refine lv_iload hx hb dX11_mend_69 (lv_at hl 0 rfl) ?_
        refine lv_iload_n hx hb dX11_mend_71 rfl (lv_at hl 4 rfl) ?_
        obtain ⟨r14, k15, hf⟩ := bd_some hf
        refine w_goV hw (w_runV (rest := []) C hw (zX1_add _ _ st12 a1 a2 x7 a3 r14 k15) (by decide) (EC_44 X _ _) rfl km_X11_175 ki_yX1_add kv_X1_add kz_X1 kc_X1_add rfl ok_yX1_add ⟨Nat.le_of_ble_eq_true rfl, Nat.le_of_ble_eq_true rfl⟩ rfl rfl rfl rfl hl.1 (Nat.le_of_ble_eq_true rfl) dX11_mend_72 ⟨Nat.zero_le _, Nat.zero_le _⟩) (fun H locs hw => ?_)
        refine lv_iload hx hb dX11_mend_75 (lv_at hl 0 rfl) ?_
        exact w_iret C hw hr (so2 hf).1 (so2 hf).2 dX11_mend_77
    · replace hf := ite_t hf c4
      refine lv_ldc (v := -2000000000) hx hb hown (hts _ kn_X11_170) dX11_mend_29 ?_
      exact w_iret C hw hr (so2 hf).1 (so2 hf).2 dX11_mend_31
theorem dX11_isFall_0 : decode cX11_isFall 0 = .ok (.iload_n 1, 1) := by decide +kernel
theorem dX11_isFall_1 : decode cX11_isFall 1 = .ok (.iconst 0, 1) := by decide +kernel
theorem dX11_isFall_2 : decode cX11_isFall 2 = .ok (.aload_n 0, 1) := by decide +kernel
theorem dX11_isFall_3 : decode cX11_isFall 3 = .ok (.getfield 10, 3) := by decide +kernel
theorem dX11_isFall_6 : decode cX11_isFall 6 = .ok (.getfield 121, 3) := by decide +kernel
theorem dX11_isFall_9 : decode cX11_isFall 9 = .ok (.iconst 1, 1) := by decide +kernel
theorem dX11_isFall_10 : decode cX11_isFall 10 = .ok (.isub, 1) := by decide +kernel
theorem dX11_isFall_11 : decode cX11_isFall 11 = .ok (.invokestatic 117, 3) := by decide +kernel
theorem dX11_isFall_14 : decode cX11_isFall 14 = .ok (.ireturn, 1) := by decide +kernel
theorem ok_yX11_isFall : yOk yX11_isFall 1 := ⟨by decide +kernel, by decide +kernel, by decide +kernel⟩
def fX11_isFall (st : St) (a1 : Int32) : Bool := (fX11_isWithin a1 (0 : Int32) ((gI st 1 2) - (1 : Int32)))
set_option maxHeartbeats 4000000 in
theorem zX11_isFall (l : Launch) (X : WX) (st : St) (a1 : Int32) : CtI l yX11_isFall cX11_isFall 2 .boolean ({ frames := 1, cells := 0, slots := 0, locals := 22 }) EC 65 X [.ref (xq X 0), .int a1] st (bI (fX11_isFall st a1)) st := by
  generalize hf : fX11_isFall st a1 = R
  refine ct_in (own := RX11) (by decide +kernel) rfl (Nat.le_of_ble_eq_true rfl) (fun p e s m below meth c C hr hw ls hl => ?_)
  obtain ⟨hx, hb, hml, hown, hts⟩ := id C.1
  have hl : lv_has ls 2 [(0, .ref (xq X 0)), (1, .int a1)] := hl
  unfold fX11_isFall at hf
  refine lv_iload_n hx hb dX11_isFall_0 rfl (lv_at hl 1 rfl) ?_
  refine lv_iconst (v := 0) hx hb dX11_isFall_1 (by decide) ?_
  refine lv_aload_n hx hb dX11_isFall_2 rfl (lv_at hl 0 rfl) ?_
  refine w_get (T := TX11) C hw (by decide) 0 kf_X11_10 (EC_0 X _ _) rfl inA11 (by decide) rfl dX11_isFall_3 ?_
  refine w_get (T := TX3) C hw (by decide) 2 kf_X11_121 (EC_1 X _ _) rfl inA3 (by decide) rfl dX11_isFall_6 ?_
  refine lv_iconst (v := 1) hx hb dX11_isFall_9 (by decide) ?_
  refine lv_isub hx hb dX11_isFall_10 ?_
  refine w_goI hw (w_runS (rest := []) C hw (zX11_isWithin _ _ st a1 (0 : Int32) ((gI st 1 2) - (1 : Int32))) km_X11_117 kt_yX11_isWithin kz_X11 kc_X11_isWithin ok_yX11_isWithin ⟨Nat.le_of_ble_eq_true rfl, Nat.le_of_ble_eq_true rfl⟩ rfl rfl rfl rfl hl.1 (Nat.le_of_ble_eq_true rfl) dX11_isFall_11 ⟨Nat.zero_le _, Nat.zero_le _⟩) (fun H locs hw => ?_)
  exact w_zret (b := (fX11_isWithin a1 (0 : Int32) ((gI st 1 2) - (1 : Int32)))) C hw hr rfl hf rfl dX11_isFall_14
theorem dX11_of_0 : decode cX11_of 0 = .ok (.iload_n 2, 1) := by decide +kernel
theorem dX11_of_1 : decode cX11_of 1 = .ok (.bipush 14, 2) := by decide +kernel
theorem dX11_of_3 : decode cX11_of 3 = .ok (.if_icmp .ne 28, 3) := by decide +kernel
theorem dX11_of_6 : decode cX11_of 6 = .ok (.aload_n 0, 1) := by decide +kernel
theorem dX11_of_7 : decode cX11_of 7 = .ok (.iload_n 1, 1) := by decide +kernel
theorem dX11_of_8 : decode cX11_of 8 = .ok (.invokevirtual 179, 3) := by decide +kernel
theorem dX11_of_11 : decode cX11_of 11 = .ok (.ifCond .eq 17, 3) := by decide +kernel
theorem dX11_of_14 : decode cX11_of 14 = .ok (.aload_n 0, 1) := by decide +kernel
theorem dX11_of_15 : decode cX11_of 15 = .ok (.getfield 67, 3) := by decide +kernel
theorem dX11_of_18 : decode cX11_of 18 = .ok (.getfield 182, 3) := by decide +kernel
theorem dX11_of_21 : decode cX11_of 21 = .ok (.iload_n 1, 1) := by decide +kernel
theorem dX11_of_22 : decode cX11_of 22 = .ok (.ishr, 1) := by decide +kernel
theorem dX11_of_23 : decode cX11_of 23 = .ok (.iconst 1, 1) := by decide +kernel
theorem dX11_of_24 : decode cX11_of 24 = .ok (.iand, 1) := by decide +kernel
theorem dX11_of_25 : decode cX11_of 25 = .ok (.goto 5, 3) := by decide +kernel
theorem dX11_of_28 : decode cX11_of 28 = .ok (.ldc 170, 2) := by decide +kernel
theorem dX11_of_30 : decode cX11_of 30 = .ok (.ireturn, 1) := by decide +kernel
theorem dX11_of_31 : decode cX11_of 31 = .ok (.aload_n 0, 1) := by decide +kernel
theorem dX11_of_32 : decode cX11_of 32 = .ok (.getfield 10, 3) := by decide +kernel
theorem dX11_of_35 : decode cX11_of 35 = .ok (.iload_n 1, 1) := by decide +kernel
theorem dX11_of_36 : decode cX11_of 36 = .ok (.iload_n 2, 1) := by decide +kernel
theorem dX11_of_37 : decode cX11_of 37 = .ok (.invokevirtual 160, 3) := by decide +kernel
theorem dX11_of_40 : decode cX11_of 40 = .ok (.ifCond .eq 17, 3) := by decide +kernel
theorem dX11_of_43 : decode cX11_of 43 = .ok (.aload_n 0, 1) := by decide +kernel
theorem dX11_of_44 : decode cX11_of 44 = .ok (.getfield 10, 3) := by decide +kernel
theorem dX11_of_47 : decode cX11_of 47 = .ok (.getfield 171, 3) := by decide +kernel
theorem dX11_of_50 : decode cX11_of 50 = .ok (.iload_n 2, 1) := by decide +kernel
theorem dX11_of_51 : decode cX11_of 51 = .ok (.aaload, 1) := by decide +kernel
theorem dX11_of_52 : decode cX11_of 52 = .ok (.iload_n 1, 1) := by decide +kernel
theorem dX11_of_53 : decode cX11_of 53 = .ok (.iaload, 1) := by decide +kernel
theorem dX11_of_54 : decode cX11_of 54 = .ok (.goto 5, 3) := by decide +kernel
theorem dX11_of_57 : decode cX11_of 57 = .ok (.ldc 170, 2) := by decide +kernel
theorem dX11_of_59 : decode cX11_of 59 = .ok (.ireturn, 1) := by decide +kernel
theorem ok_yX11_of : yOk yX11_of 2 := ⟨by decide +kernel, by decide +kernel, by decide +kernel⟩
def fX11_of (st : St) (a1 : Int32) (a2 : Int32) : Option (Int32) := if a2 = (14 : Int32) then (if bI (fX11_isFall st a1) = 0 then (some (-2000000000 : Int32)) else (some (((gI st 39 1) >>> (a1 &&& 31)) &&& (1 : Int32)))) else (if bI (fX3_has st a1 a2) = 0 then (some (-2000000000 : Int32)) else (gd (inB a2 14) (gd (inB a1 13) (some (gI st (3 + a2.toNatClampNeg) a1.toNatClampNeg)))))
set_option maxHeartbeats 4000000 in
theorem zX11_of (l : Launch) (X : WX) (st : St) (a1 : Int32) (a2 : Int32) (R : Int32) (hf : fX11_of st a1 a2 = some R) : CtI l yX11_of cX11_of 3 .int ({ frames := 2, cells := 0, slots := 0, locals := 43 }) EC 65 X [.ref (xq X 0), .int a1, .int a2] st R st := by
  refine ct_in (own := RX11) (by decide +kernel) rfl (Nat.le_of_ble_eq_true rfl) (fun p e s m below meth c C hr hw ls hl => ?_)
  obtain ⟨hx, hb, hml, hown, hts⟩ := id C.1
  have hl : lv_has ls 3 [(0, .ref (xq X 0)), (1, .int a1), (2, .int a2)] := hl
  unfold fX11_of at hf
  refine lv_iload_n hx hb dX11_of_0 rfl (lv_at hl 2 rfl) ?_
  refine lv_bipush (v := 14) hx hb dX11_of_1 (by decide) ?_
  refine lv_icmp_ne (tgt := 31) hx hb dX11_of_3 (by decide) (fun c1 => ?_) (fun c1 => ?_)
  · replace hf := ite_f hf c1
    refine lv_aload_n hx hb dX11_of_31 rfl (lv_at hl 0 rfl) ?_
    refine w_get (T := TX11) C hw (by decide) 0 kf_X11_10 (EC_0 X _ _) rfl inA11 (by decide) rfl dX11_of_32 ?_
    refine lv_iload_n hx hb dX11_of_35 rfl (lv_at hl 1 rfl) ?_
    refine lv_iload_n hx hb dX11_of_36 rfl (lv_at hl 2 rfl) ?_
    refine w_goI hw (w_runV (rest := []) C hw (zX3_has _ _ st a1 a2) (by decide) (EC_1 X _ _) rfl km_X11_160 ki_yX3_has kv_X3_has kz_X3 kc_X3_has rfl ok_yX3_has ⟨Nat.le_of_ble_eq_true rfl, Nat.le_of_ble_eq_true rfl⟩ rfl rfl rfl rfl hl.1 (Nat.le_of_ble_eq_true rfl) dX11_of_37 ⟨Nat.zero_le _, Nat.zero_le _⟩) (fun H locs hw => ?_)
    refine lv_if_eq (tgt := 57) hx hb dX11_of_40 (by decide) (fun c2 => ?_) (fun c2 => ?_)
    · replace hf := ite_t hf c2
      refine lv_ldc (v := -2000000000) hx hb hown (hts _ kn_X11_170) dX11_of_57 ?_
      exact w_iret C hw hr (Option.some.inj hf) rfl dX11_of_59
    · replace hf := ite_f hf c2
      refine lv_aload_n hx hb dX11_of_43 rfl (lv_at hl 0 rfl) ?_
      refine w_get (T := TX11) C hw (by decide) 0 kf_X11_10 (EC_0 X _ _) rfl inA11 (by decide) rfl dX11_of_44 ?_
      refine w_get (T := TX3) C hw (by decide) 0 kf_X11_171 (EC_1 X _ _) rfl inA3 (by decide) rfl dX11_of_47 ?_
      refine lv_iload_n hx hb dX11_of_50 rfl (lv_at hl 2 rfl) ?_
      obtain ⟨h3, hf⟩ := gd_some hf
      refine w_aald (k' := (3 + a2.toNatClampNeg)) C hw (by decide) (EC_2 X _ _) rfl rfl h3 rfl dX11_of_51 ?_
      refine lv_iload_n hx hb dX11_of_52 rfl (lv_at hl 1 rfl) ?_
      obtain ⟨h4, hf⟩ := gd_some hf
      refine w_iald C hw (EC_rowN h3) (EC_row X h3 _ _) h4 rfl dX11_of_53 ?_
      refine lv_goto (tgt := 59) hx hb dX11_of_54 (by decide) ?_
      exact w_iret C hw hr (Option.some.inj hf) rfl dX11_of_59
  · replace hf := ite_t hf c1
    refine lv_aload_n hx hb dX11_of_6 rfl (lv_at hl 0 rfl) ?_
    refine lv_iload_n hx hb dX11_of_7 rfl (lv_at hl 1 rfl) ?_
    refine w_goI hw (w_runV (rest := []) C hw (zX11_isFall _ _ st a1) (by decide) (EC_0 X _ _) rfl km_X11_179 ki_yX11_isFall kv_X11_isFall kz_X11 kc_X11_isFall rfl ok_yX11_isFall ⟨Nat.le_of_ble_eq_true rfl, Nat.le_of_ble_eq_true rfl⟩ rfl rfl rfl rfl hl.1 (Nat.le_of_ble_eq_true rfl) dX11_of_8 ⟨Nat.zero_le _, Nat.zero_le _⟩) (fun H locs hw => ?_)
    refine lv_if_eq (tgt := 28) hx hb dX11_of_11 (by decide) (fun c5 => ?_) (fun c5 => ?_)
    · replace hf := ite_t hf c5
      refine lv_ldc (v := -2000000000) hx hb hown (hts _ kn_X11_170) dX11_of_28 ?_
      exact w_iret C hw hr (Option.some.inj hf) rfl dX11_of_30
    · replace hf := ite_f hf c5
      refine lv_aload_n hx hb dX11_of_14 rfl (lv_at hl 0 rfl) ?_
      refine w_get (T := TX11) C hw (by decide) 7 kf_X11_67 (EC_0 X _ _) rfl inA11 (by decide) rfl dX11_of_15 ?_
      refine w_get (T := TX2) C hw (by decide) 1 kf_X11_182 (EC_39 X _ _) rfl inA2 (by decide) rfl dX11_of_18 ?_
      refine lv_iload_n hx hb dX11_of_21 rfl (lv_at hl 1 rfl) ?_
      refine lv_ishr hx hb dX11_of_22 ?_
      refine lv_iconst (v := 1) hx hb dX11_of_23 (by decide) ?_
      refine lv_iand hx hb dX11_of_24 ?_
      refine lv_goto (tgt := 30) hx hb dX11_of_25 (by decide) ?_
      exact w_iret C hw hr (Option.some.inj hf) rfl dX11_of_30
theorem dX11_feed_0 : decode cX11_feed 0 = .ok (.iload_n 1, 1) := by decide +kernel
theorem dX11_feed_1 : decode cX11_feed 1 = .ok (.iconst 0, 1) := by decide +kernel
theorem dX11_feed_2 : decode cX11_feed 2 = .ok (.sipush 255, 3) := by decide +kernel
theorem dX11_feed_5 : decode cX11_feed 5 = .ok (.invokestatic 117, 3) := by decide +kernel
theorem dX11_feed_8 : decode cX11_feed 8 = .ok (.ifCond .ne 5, 3) := by decide +kernel
theorem dX11_feed_11 : decode cX11_feed 11 = .ok (.iconst (-1), 1) := by decide +kernel
theorem dX11_feed_12 : decode cX11_feed 12 = .ok (.ireturn, 1) := by decide +kernel
theorem dX11_feed_13 : decode cX11_feed 13 = .ok (.aload_n 0, 1) := by decide +kernel
theorem dX11_feed_14 : decode cX11_feed 14 = .ok (.getfield 26, 3) := by decide +kernel
theorem dX11_feed_17 : decode cX11_feed 17 = .ok (.getfield 185, 3) := by decide +kernel
theorem dX11_feed_20 : decode cX11_feed 20 = .ok (.bipush 120, 2) := by decide +kernel
theorem dX11_feed_22 : decode cX11_feed 22 = .ok (.if_icmp .ne 8, 3) := by decide +kernel
theorem dX11_feed_25 : decode cX11_feed 25 = .ok (.bipush (-3), 2) := by decide +kernel
theorem dX11_feed_27 : decode cX11_feed 27 = .ok (.goto 11, 3) := by decide +kernel
theorem dX11_feed_30 : decode cX11_feed 30 = .ok (.aload_n 0, 1) := by decide +kernel
theorem dX11_feed_31 : decode cX11_feed 31 = .ok (.getfield 26, 3) := by decide +kernel
theorem dX11_feed_34 : decode cX11_feed 34 = .ok (.iload_n 1, 1) := by decide +kernel
theorem dX11_feed_35 : decode cX11_feed 35 = .ok (.invokevirtual 186, 3) := by decide +kernel
theorem dX11_feed_38 : decode cX11_feed 38 = .ok (.ireturn, 1) := by decide +kernel
theorem ok_yX11_feed : yOk yX11_feed 1 := ⟨by decide +kernel, by decide +kernel, by decide +kernel⟩
def fX11_feed (st : St) (a1 : Int32) : Option (Int32 × St) := if bI (fX11_isWithin a1 (0 : Int32) (255 : Int32)) = 0 then (some ((-1 : Int32), st)) else (if gI st 21 1 = (120 : Int32) then (some ((-3 : Int32), st)) else ((fX5_take st a1).bind (fun r3 => some (r3.1, r3.2))))
set_option maxHeartbeats 4000000 in
theorem zX11_feed (l : Launch) (X : WX) (st : St) (a1 : Int32) (R : Int32 × St) (hf : fX11_feed st a1 = some R) : CtI l yX11_feed cX11_feed 2 .int ({ frames := 1, cells := 0, slots := 0, locals := 22 }) EC 65 X [.ref (xq X 0), .int a1] st R.1 R.2 := by
  refine ct_in (own := RX11) (by decide +kernel) rfl (Nat.le_of_ble_eq_true rfl) (fun p e s m below meth c C hr hw ls hl => ?_)
  obtain ⟨hx, hb, hml, hown, hts⟩ := id C.1
  have hl : lv_has ls 2 [(0, .ref (xq X 0)), (1, .int a1)] := hl
  unfold fX11_feed at hf
  refine lv_iload_n hx hb dX11_feed_0 rfl (lv_at hl 1 rfl) ?_
  refine lv_iconst (v := 0) hx hb dX11_feed_1 (by decide) ?_
  refine lv_sipush (v := 255) hx hb dX11_feed_2 (by decide) ?_
  refine w_goI hw (w_runS (rest := []) C hw (zX11_isWithin _ _ st a1 (0 : Int32) (255 : Int32)) km_X11_117 kt_yX11_isWithin kz_X11 kc_X11_isWithin ok_yX11_isWithin ⟨Nat.le_of_ble_eq_true rfl, Nat.le_of_ble_eq_true rfl⟩ rfl rfl rfl rfl hl.1 (Nat.le_of_ble_eq_true rfl) dX11_feed_5 ⟨Nat.zero_le _, Nat.zero_le _⟩) (fun H locs hw => ?_)
  refine lv_if_ne (tgt := 13) hx hb dX11_feed_8 (by decide) (fun c1 => ?_) (fun c1 => ?_)
  · replace hf := ite_f hf c1
    refine lv_aload_n hx hb dX11_feed_13 rfl (lv_at hl 0 rfl) ?_
    refine w_get (T := TX11) C hw (by decide) 2 kf_X11_26 (EC_0 X _ _) rfl inA11 (by decide) rfl dX11_feed_14 ?_
    refine w_get (T := TX5) C hw (by decide) 1 kf_X11_185 (EC_21 X _ _) rfl inA5 (by decide) rfl dX11_feed_17 ?_
    refine lv_bipush (v := 120) hx hb dX11_feed_20 (by decide) ?_
    refine lv_icmp_ne (tgt := 30) hx hb dX11_feed_22 (by decide) (fun c2 => ?_) (fun c2 => ?_)
    · replace hf := ite_f hf c2
      refine lv_aload_n hx hb dX11_feed_30 rfl (lv_at hl 0 rfl) ?_
      refine w_get (T := TX11) C hw (by decide) 2 kf_X11_26 (EC_0 X _ _) rfl inA11 (by decide) rfl dX11_feed_31 ?_
      refine lv_iload_n hx hb dX11_feed_34 rfl (lv_at hl 1 rfl) ?_
      obtain ⟨r3, k4, hf⟩ := bd_some hf
      refine w_goI hw (w_runV (rest := []) C hw (zX5_take _ _ st a1 r3 k4) (by decide) (EC_21 X _ _) rfl km_X11_186 ki_yX5_take kv_X5_take kz_X5 kc_X5_take rfl ok_yX5_take ⟨Nat.le_of_ble_eq_true rfl, Nat.le_of_ble_eq_true rfl⟩ rfl rfl rfl rfl hl.1 (Nat.le_of_ble_eq_true rfl) dX11_feed_35 ⟨Nat.zero_le _, Nat.zero_le _⟩) (fun H locs hw => ?_)
      exact w_iret C hw hr (so2 hf).1 (so2 hf).2 dX11_feed_38
    · replace hf := ite_t hf c2
      refine lv_bipush (v := -3) hx hb dX11_feed_25 (by decide) ?_
      refine lv_goto (tgt := 38) hx hb dX11_feed_27 (by decide) ?_
      exact w_iret C hw hr (so2 hf).1 (so2 hf).2 dX11_feed_38
  · replace hf := ite_t hf c1
    refine lv_iconst (v := -1) hx hb dX11_feed_11 (by decide) ?_
    exact w_iret C hw hr (so2 hf).1 (so2 hf).2 dX11_feed_12
theorem dX11_law_0 : decode cX11_law 0 = .ok (.aload_n 0, 1) := by decide +kernel
theorem dX11_law_1 : decode cX11_law 1 = .ok (.getfield 26, 3) := by decide +kernel
theorem dX11_law_4 : decode cX11_law 4 = .ok (.invokevirtual 189, 3) := by decide +kernel
theorem dX11_law_7 : decode cX11_law 7 = .ok (.istore_n 1, 1) := by decide +kernel
theorem dX11_law_8 : decode cX11_law 8 = .ok (.iload_n 1, 1) := by decide +kernel
theorem dX11_law_9 : decode cX11_law 9 = .ok (.ifCond .eq 14, 3) := by decide +kernel
theorem dX11_law_12 : decode cX11_law 12 = .ok (.aload_n 0, 1) := by decide +kernel
theorem dX11_law_13 : decode cX11_law 13 = .ok (.getfield 26, 3) := by decide +kernel
theorem dX11_law_16 : decode cX11_law 16 = .ok (.aload_n 0, 1) := by decide +kernel
theorem dX11_law_17 : decode cX11_law 17 = .ok (.getfield 19, 3) := by decide +kernel
theorem dX11_law_20 : decode cX11_law 20 = .ok (.invokevirtual 193, 3) := by decide +kernel
theorem dX11_law_23 : decode cX11_law 23 = .ok (.iload_n 1, 1) := by decide +kernel
theorem dX11_law_24 : decode cX11_law 24 = .ok (.ifCond .eq 7, 3) := by decide +kernel
theorem dX11_law_27 : decode cX11_law 27 = .ok (.iconst 1, 1) := by decide +kernel
theorem dX11_law_28 : decode cX11_law 28 = .ok (.goto 13, 3) := by decide +kernel
theorem dX11_law_31 : decode cX11_law 31 = .ok (.bipush (-100), 2) := by decide +kernel
theorem dX11_law_33 : decode cX11_law 33 = .ok (.aload_n 0, 1) := by decide +kernel
theorem dX11_law_34 : decode cX11_law 34 = .ok (.getfield 26, 3) := by decide +kernel
theorem dX11_law_37 : decode cX11_law 37 = .ok (.getfield 197, 3) := by decide +kernel
theorem dX11_law_40 : decode cX11_law 40 = .ok (.isub, 1) := by decide +kernel
theorem dX11_law_41 : decode cX11_law 41 = .ok (.istore_n 2, 1) := by decide +kernel
theorem dX11_law_42 : decode cX11_law 42 = .ok (.aload_n 0, 1) := by decide +kernel
theorem dX11_law_43 : decode cX11_law 43 = .ok (.getfield 26, 3) := by decide +kernel
theorem dX11_law_46 : decode cX11_law 46 = .ok (.iconst 0, 1) := by decide +kernel
theorem dX11_law_47 : decode cX11_law 47 = .ok (.putfield 185, 3) := by decide +kernel
theorem dX11_law_50 : decode cX11_law 50 = .ok (.iload_n 2, 1) := by decide +kernel
theorem dX11_law_51 : decode cX11_law 51 = .ok (.ireturn, 1) := by decide +kernel
theorem ok_yX11_law : yOk yX11_law 0 := ⟨by decide +kernel, by decide +kernel, by decide +kernel⟩
def fX11_law_23 (n : Nat) (st : St) (v1 : Int32) : Option (Int32 × St) := if v1 = 0 then (bnd ((-100 : Int32) - (gI st 21 2)) (fun x9 => bnd (sI st 21 1 (0 : Int32)) (fun st11 => some (x9, st11)))) else (bnd (sI st 21 1 (0 : Int32)) (fun st13 => some ((1 : Int32), st13)))
set_option maxHeartbeats 4000000 in
theorem tX11_law_23 {p : Program} {l : Launch} {e : Env} {s : State} {m : MethodId} {args : Array Value} {below : List Frame} {meth : Method} {c : Code} {X : WX} (C : Amb 65 X p s m args meth c cX11_law 3 RX11) (hr : meth.sig.returnType = some .int) {R : Int32 × St} {n : Nat} : ∀ (st : St) (v1 : Int32) (H : Heap) (locs : List Loc) (ls : Array Slot), Wd EC 65 X s.heap st H locs → lv_has ls 3 [(0, .ref (xq X 0)), (1, .int v1)] → fX11_law_23 n st v1 = some R → W p l e { frames := 66, cells := 0, slots := 0, locals := 1456 } s m args below meth c H locs 0 0 (QI EC 65 X R.1 R.2 below args s) (F0 m 23 ls []) := by
  obtain ⟨hx, hb, hml, hown, hts⟩ := id C.1
  intro st v1 H locs ls  hw hl hf
  unfold fX11_law_23 at hf
  refine lv_iload_n hx hb dX11_law_23 rfl (lv_at hl 1 rfl) ?_
  refine lv_if_eq (tgt := 31) hx hb dX11_law_24 (by decide) (fun c8 => ?_) (fun c8 => ?_)
  · replace hf := ite_t hf c8
    refine lv_bipush (v := -100) hx hb dX11_law_31 (by decide) ?_
    refine lv_aload_n hx hb dX11_law_33 rfl (lv_at hl 0 rfl) ?_
    refine w_get (T := TX11) C hw (by decide) 2 kf_X11_26 (EC_0 X _ _) rfl inA11 (by decide) rfl dX11_law_34 ?_
    refine w_get (T := TX5) C hw (by decide) 2 kf_X11_197 (EC_21 X _ _) rfl inA5 (by decide) rfl dX11_law_37 ?_
    refine lv_isub hx hb dX11_law_40 ?_
    refine lv_topi (fun x9 e10 => ?_)
    replace hf := bnd_nm hf e10
    refine lv_istore_n (lv' := [(2, .int x9), (0, .ref (xq X 0)), (1, .int v1)]) hx hb dX11_law_41 rfl hl (by decide) rfl (fun ls hl => ?_)
    refine lv_aload_n hx hb dX11_law_42 rfl (lv_at hl 1 rfl) ?_
    refine w_get (T := TX11) C hw (by decide) 2 kf_X11_26 (EC_0 X _ _) rfl inA11 (by decide) rfl dX11_law_43 ?_
    refine lv_iconst (v := 0) hx hb dX11_law_46 (by decide) ?_
    obtain ⟨st11, es12⟩ : ∃ z : St, z = sI st 21 1 (0 : Int32) := ⟨_, rfl⟩
    replace hf := bnd_nm hf es12
    refine w_puti (T := TX5) C hw (by decide) 1 kf_X11_185 (EC_21 X _ _) rfl inA5 tyX5_ok nmX5 (by decide) rfl rfl (Nat.le_of_ble_eq_true rfl) rfl dX11_law_47 (fun H locs hw => ?_)
    rw [← es12] at hw
    refine lv_iload_n hx hb dX11_law_50 rfl (lv_at hl 0 rfl) ?_
    exact w_iret C hw hr (so2 hf).1 (so2 hf).2 dX11_law_51
  · replace hf := ite_f hf c8
    refine lv_iconst (v := 1) hx hb dX11_law_27 (by decide) ?_
    refine lv_goto (tgt := 41) hx hb dX11_law_28 (by decide) ?_
    refine lv_istore_n (lv' := [(2, .int (1 : Int32)), (0, .ref (xq X 0)), (1, .int v1)]) hx hb dX11_law_41 rfl hl (by decide) rfl (fun ls hl => ?_)
    refine lv_aload_n hx hb dX11_law_42 rfl (lv_at hl 1 rfl) ?_
    refine w_get (T := TX11) C hw (by decide) 2 kf_X11_26 (EC_0 X _ _) rfl inA11 (by decide) rfl dX11_law_43 ?_
    refine lv_iconst (v := 0) hx hb dX11_law_46 (by decide) ?_
    obtain ⟨st13, es14⟩ : ∃ z : St, z = sI st 21 1 (0 : Int32) := ⟨_, rfl⟩
    replace hf := bnd_nm hf es14
    refine w_puti (T := TX5) C hw (by decide) 1 kf_X11_185 (EC_21 X _ _) rfl inA5 tyX5_ok nmX5 (by decide) rfl rfl (Nat.le_of_ble_eq_true rfl) rfl dX11_law_47 (fun H locs hw => ?_)
    rw [← es14] at hw
    refine lv_iload_n hx hb dX11_law_50 rfl (lv_at hl 0 rfl) ?_
    exact w_iret C hw hr (so2 hf).1 (so2 hf).2 dX11_law_51
def fX11_law (n : Nat) (st : St) : Option (Int32 × St) := (fX5_isText n st).bind (fun r1 => bnd (bI r1.1) (fun x3 => if x3 = 0 then (fX11_law_23 n r1.2 x3) else (bnd (fX5_handTo r1.2) (fun r6 => fX11_law_23 n r6 x3))))
set_option maxHeartbeats 4000000 in
theorem zX11_law (l : Launch) (X : WX) (n : Nat) (st : St)  (R : Int32 × St) (hf : fX11_law n st = some R) : CtI l yX11_law cX11_law 3 .int ({ frames := 66, cells := 0, slots := 0, locals := 1456 }) EC 65 X [.ref (xq X 0)] st R.1 R.2 := by
  refine ct_in (own := RX11) (by decide +kernel) rfl (Nat.le_of_ble_eq_true rfl) (fun p e s m below meth c C hr hw ls hl => ?_)
  obtain ⟨hx, hb, hml, hown, hts⟩ := id C.1
  have hl : lv_has ls 3 [(0, .ref (xq X 0))] := hl
  unfold fX11_law at hf
  refine lv_aload_n hx hb dX11_law_0 rfl (lv_at hl 0 rfl) ?_
  refine w_get (T := TX11) C hw (by decide) 2 kf_X11_26 (EC_0 X _ _) rfl inA11 (by decide) rfl dX11_law_1 ?_
  obtain ⟨r1, k2, hf⟩ := bd_some hf
  refine w_goI hw (w_runV (rest := []) C hw (zX5_isText _ _ n st r1 k2) (by decide) (EC_21 X _ _) rfl km_X11_189 ki_yX5_isText kv_X5_isText kz_X5 kc_X5_isText rfl ok_yX5_isText ⟨Nat.le_of_ble_eq_true rfl, Nat.le_of_ble_eq_true rfl⟩ rfl rfl rfl rfl hl.1 (Nat.le_of_ble_eq_true rfl) dX11_law_4 ⟨Nat.zero_le _, Nat.zero_le _⟩) (fun H locs hw => ?_)
  refine lv_topi (fun x3 e4 => ?_)
  replace hf := bnd_nm hf e4
  refine lv_istore_n (lv' := [(1, .int x3), (0, .ref (xq X 0))]) hx hb dX11_law_7 rfl hl (by decide) rfl (fun ls hl => ?_)
  refine lv_iload_n hx hb dX11_law_8 rfl (lv_at hl 0 rfl) ?_
  refine lv_if_eq (tgt := 23) hx hb dX11_law_9 (by decide) (fun c5 => ?_) (fun c5 => ?_)
  · replace hf := ite_t hf c5
    exact tX11_law_23 C hr r1.2 x3 _ _ _ hw (lv_sub hl [1, 0] rfl) hf
  · replace hf := ite_f hf c5
    refine lv_aload_n hx hb dX11_law_12 rfl (lv_at hl 1 rfl) ?_
    refine w_get (T := TX11) C hw (by decide) 2 kf_X11_26 (EC_0 X _ _) rfl inA11 (by decide) rfl dX11_law_13 ?_
    refine lv_aload_n hx hb dX11_law_16 rfl (lv_at hl 1 rfl) ?_
    refine w_get (T := TX11) C hw (by decide) 1 kf_X11_19 (EC_0 X _ _) rfl inA11 (by decide) rfl dX11_law_17 ?_
    obtain ⟨r6, k7⟩ : ∃ z : St, z = fX5_handTo r1.2 := ⟨_, rfl⟩
    replace hf := bnd_nm hf k7
    refine w_goV hw (w_runV (rest := []) C hw (zX5_handTo _ _ r1.2 r6 k7.symm) (by decide) (EC_21 X _ _) rfl km_X11_193 ki_yX5_handTo kv_X5_handTo kz_X5 kc_X5_handTo rfl ok_yX5_handTo ⟨Nat.le_of_ble_eq_true rfl, Nat.le_of_ble_eq_true rfl⟩ rfl rfl rfl rfl hl.1 (Nat.le_of_ble_eq_true rfl) dX11_law_20 ⟨Nat.zero_le _, Nat.zero_le _⟩) (fun H locs hw => ?_)
    exact tX11_law_23 C hr r6 x3 _ _ _ hw (lv_sub hl [1, 0] rfl) hf
theorem dX11_isFallAndCry_0 : decode cX11_isFallAndCry 0 = .ok (.iload_n 1, 1) := by decide +kernel
theorem dX11_isFallAndCry_1 : decode cX11_isFallAndCry 1 = .ok (.ifCond .lt 32, 3) := by decide +kernel
theorem dX11_isFallAndCry_4 : decode cX11_isFallAndCry 4 = .ok (.aload_n 0, 1) := by decide +kernel
theorem dX11_isFallAndCry_5 : decode cX11_isFallAndCry 5 = .ok (.iload_n 1, 1) := by decide +kernel
theorem dX11_isFallAndCry_6 : decode cX11_isFallAndCry 6 = .ok (.bipush 100, 2) := by decide +kernel
theorem dX11_isFallAndCry_8 : decode cX11_isFallAndCry 8 = .ok (.idiv, 1) := by decide +kernel
theorem dX11_isFallAndCry_9 : decode cX11_isFallAndCry 9 = .ok (.invokevirtual 179, 3) := by decide +kernel
theorem dX11_isFallAndCry_12 : decode cX11_isFallAndCry 12 = .ok (.ifCond .eq 21, 3) := by decide +kernel
theorem dX11_isFallAndCry_15 : decode cX11_isFallAndCry 15 = .ok (.iload_n 1, 1) := by decide +kernel
theorem dX11_isFallAndCry_16 : decode cX11_isFallAndCry 16 = .ok (.bipush 100, 2) := by decide +kernel
theorem dX11_isFallAndCry_18 : decode cX11_isFallAndCry 18 = .ok (.irem, 1) := by decide +kernel
theorem dX11_isFallAndCry_19 : decode cX11_isFallAndCry 19 = .ok (.aload_n 0, 1) := by decide +kernel
theorem dX11_isFallAndCry_20 : decode cX11_isFallAndCry 20 = .ok (.getfield 10, 3) := by decide +kernel
theorem dX11_isFallAndCry_23 : decode cX11_isFallAndCry 23 = .ok (.getfield 154, 3) := by decide +kernel
theorem dX11_isFallAndCry_26 : decode cX11_isFallAndCry 26 = .ok (.if_icmp .ge 7, 3) := by decide +kernel
theorem dX11_isFallAndCry_29 : decode cX11_isFallAndCry 29 = .ok (.iconst 1, 1) := by decide +kernel
theorem dX11_isFallAndCry_30 : decode cX11_isFallAndCry 30 = .ok (.goto 4, 3) := by decide +kernel
theorem dX11_isFallAndCry_33 : decode cX11_isFallAndCry 33 = .ok (.iconst 0, 1) := by decide +kernel
theorem dX11_isFallAndCry_34 : decode cX11_isFallAndCry 34 = .ok (.ireturn, 1) := by decide +kernel
theorem ok_yX11_isFallAndCry : yOk yX11_isFallAndCry 1 := ⟨by decide +kernel, by decide +kernel, by decide +kernel⟩
def fX11_isFallAndCry (st : St) (a1 : Int32) : Bool := if a1 < 0 then (false) else (if bI (fX11_isFall st (a1 / (100 : Int32))) = 0 then (false) else (if gI st 1 3 ≤ rmI a1 (100 : Int32) then (false) else (true)))
set_option maxHeartbeats 4000000 in
theorem zX11_isFallAndCry (l : Launch) (X : WX) (st : St) (a1 : Int32) : CtI l yX11_isFallAndCry cX11_isFallAndCry 2 .boolean ({ frames := 2, cells := 0, slots := 0, locals := 43 }) EC 65 X [.ref (xq X 0), .int a1] st (bI (fX11_isFallAndCry st a1)) st := by
  generalize hf : fX11_isFallAndCry st a1 = R
  refine ct_in (own := RX11) (by decide +kernel) rfl (Nat.le_of_ble_eq_true rfl) (fun p e s m below meth c C hr hw ls hl => ?_)
  obtain ⟨hx, hb, hml, hown, hts⟩ := id C.1
  have hl : lv_has ls 2 [(0, .ref (xq X 0)), (1, .int a1)] := hl
  unfold fX11_isFallAndCry at hf
  refine lv_iload_n hx hb dX11_isFallAndCry_0 rfl (lv_at hl 1 rfl) ?_
  refine lv_if_lt (tgt := 33) hx hb dX11_isFallAndCry_1 (by decide) (fun c1 => ?_) (fun c1 => ?_)
  · replace hf := ite_t hf c1
    refine lv_iconst (v := 0) hx hb dX11_isFallAndCry_33 (by decide) ?_
    exact w_zret (b := false) C hw hr rfl hf rfl dX11_isFallAndCry_34
  · replace hf := ite_f hf c1
    refine lv_aload_n hx hb dX11_isFallAndCry_4 rfl (lv_at hl 0 rfl) ?_
    refine lv_iload_n hx hb dX11_isFallAndCry_5 rfl (lv_at hl 1 rfl) ?_
    refine lv_bipush (v := 100) hx hb dX11_isFallAndCry_6 (by decide) ?_
    refine lv_idiv hx hb dX11_isFallAndCry_8 (by decide) ?_
    refine w_goI hw (w_runV (rest := []) C hw (zX11_isFall _ _ st (a1 / (100 : Int32))) (by decide) (EC_0 X _ _) rfl km_X11_179 ki_yX11_isFall kv_X11_isFall kz_X11 kc_X11_isFall rfl ok_yX11_isFall ⟨Nat.le_of_ble_eq_true rfl, Nat.le_of_ble_eq_true rfl⟩ rfl rfl rfl rfl hl.1 (Nat.le_of_ble_eq_true rfl) dX11_isFallAndCry_9 ⟨Nat.zero_le _, Nat.zero_le _⟩) (fun H locs hw => ?_)
    refine lv_if_eq (tgt := 33) hx hb dX11_isFallAndCry_12 (by decide) (fun c2 => ?_) (fun c2 => ?_)
    · replace hf := ite_t hf c2
      refine lv_iconst (v := 0) hx hb dX11_isFallAndCry_33 (by decide) ?_
      exact w_zret (b := false) C hw hr rfl hf rfl dX11_isFallAndCry_34
    · replace hf := ite_f hf c2
      refine lv_iload_n hx hb dX11_isFallAndCry_15 rfl (lv_at hl 1 rfl) ?_
      refine lv_bipush (v := 100) hx hb dX11_isFallAndCry_16 (by decide) ?_
      refine w_irem C (by decide) dX11_isFallAndCry_18 ?_
      refine lv_aload_n hx hb dX11_isFallAndCry_19 rfl (lv_at hl 0 rfl) ?_
      refine w_get (T := TX11) C hw (by decide) 0 kf_X11_10 (EC_0 X _ _) rfl inA11 (by decide) rfl dX11_isFallAndCry_20 ?_
      refine w_get (T := TX3) C hw (by decide) 3 kf_X11_154 (EC_1 X _ _) rfl inA3 (by decide) rfl dX11_isFallAndCry_23 ?_
      refine lv_icmp_ge (tgt := 33) hx hb dX11_isFallAndCry_26 (by decide) (fun c3 => ?_) (fun c3 => ?_)
      · replace hf := ite_t hf c3
        refine lv_iconst (v := 0) hx hb dX11_isFallAndCry_33 (by decide) ?_
        exact w_zret (b := false) C hw hr rfl hf rfl dX11_isFallAndCry_34
      · replace hf := ite_f hf c3
        refine lv_iconst (v := 1) hx hb dX11_isFallAndCry_29 (by decide) ?_
        refine lv_goto (tgt := 34) hx hb dX11_isFallAndCry_30 (by decide) ?_
        exact w_zret (b := true) C hw hr rfl hf rfl dX11_isFallAndCry_34
theorem dX11_counts_0 : decode cX11_counts 0 = .ok (.aload_n 0, 1) := by decide +kernel
theorem dX11_counts_1 : decode cX11_counts 1 = .ok (.iload_n 1, 1) := by decide +kernel
theorem dX11_counts_2 : decode cX11_counts 2 = .ok (.invokevirtual 200, 3) := by decide +kernel
theorem dX11_counts_5 : decode cX11_counts 5 = .ok (.ifCond .eq 21, 3) := by decide +kernel
theorem dX11_counts_8 : decode cX11_counts 8 = .ok (.aload_n 0, 1) := by decide +kernel
theorem dX11_counts_9 : decode cX11_counts 9 = .ok (.getfield 35, 3) := by decide +kernel
theorem dX11_counts_12 : decode cX11_counts 12 = .ok (.iload_n 1, 1) := by decide +kernel
theorem dX11_counts_13 : decode cX11_counts 13 = .ok (.bipush 100, 2) := by decide +kernel
theorem dX11_counts_15 : decode cX11_counts 15 = .ok (.idiv, 1) := by decide +kernel
theorem dX11_counts_16 : decode cX11_counts 16 = .ok (.iload_n 1, 1) := by decide +kernel
theorem dX11_counts_17 : decode cX11_counts 17 = .ok (.bipush 100, 2) := by decide +kernel
theorem dX11_counts_19 : decode cX11_counts 19 = .ok (.irem, 1) := by decide +kernel
theorem dX11_counts_20 : decode cX11_counts 20 = .ok (.invokevirtual 203, 3) := by decide +kernel
theorem dX11_counts_23 : decode cX11_counts 23 = .ok (.goto 5, 3) := by decide +kernel
theorem dX11_counts_26 : decode cX11_counts 26 = .ok (.ldc 170, 2) := by decide +kernel
theorem dX11_counts_28 : decode cX11_counts 28 = .ok (.ireturn, 1) := by decide +kernel
theorem ok_yX11_counts : yOk yX11_counts 1 := ⟨by decide +kernel, by decide +kernel, by decide +kernel⟩
def fX11_counts (n : Nat) (st : St) (a1 : Int32) : Option (Int32 × St) := if bI (fX11_isFallAndCry st a1) = 0 then (some ((-2000000000 : Int32), st)) else ((fX6_countOf n st (a1 / (100 : Int32)) (rmI a1 (100 : Int32))).bind (fun r2 => some (r2.1, r2.2)))
set_option maxHeartbeats 4000000 in
theorem zX11_counts (l : Launch) (X : WX) (n : Nat) (st : St) (a1 : Int32) (R : Int32 × St) (hf : fX11_counts n st a1 = some R) : CtI l yX11_counts cX11_counts 2 .int ({ frames := 4, cells := 0, slots := 0, locals := 100 }) EC 65 X [.ref (xq X 0), .int a1] st R.1 R.2 := by
  refine ct_in (own := RX11) (by decide +kernel) rfl (Nat.le_of_ble_eq_true rfl) (fun p e s m below meth c C hr hw ls hl => ?_)
  obtain ⟨hx, hb, hml, hown, hts⟩ := id C.1
  have hl : lv_has ls 2 [(0, .ref (xq X 0)), (1, .int a1)] := hl
  unfold fX11_counts at hf
  refine lv_aload_n hx hb dX11_counts_0 rfl (lv_at hl 0 rfl) ?_
  refine lv_iload_n hx hb dX11_counts_1 rfl (lv_at hl 1 rfl) ?_
  refine w_goI hw (w_runV (rest := []) C hw (zX11_isFallAndCry _ _ st a1) (by decide) (EC_0 X _ _) rfl km_X11_200 ki_yX11_isFallAndCry kv_X11_isFallAndCry kz_X11 kc_X11_isFallAndCry rfl ok_yX11_isFallAndCry ⟨Nat.le_of_ble_eq_true rfl, Nat.le_of_ble_eq_true rfl⟩ rfl rfl rfl rfl hl.1 (Nat.le_of_ble_eq_true rfl) dX11_counts_2 ⟨Nat.zero_le _, Nat.zero_le _⟩) (fun H locs hw => ?_)
  refine lv_if_eq (tgt := 26) hx hb dX11_counts_5 (by decide) (fun c1 => ?_) (fun c1 => ?_)
  · replace hf := ite_t hf c1
    refine lv_ldc (v := -2000000000) hx hb hown (hts _ kn_X11_170) dX11_counts_26 ?_
    exact w_iret C hw hr (so2 hf).1 (so2 hf).2 dX11_counts_28
  · replace hf := ite_f hf c1
    refine lv_aload_n hx hb dX11_counts_8 rfl (lv_at hl 0 rfl) ?_
    refine w_get (T := TX11) C hw (by decide) 3 kf_X11_35 (EC_0 X _ _) rfl inA11 (by decide) rfl dX11_counts_9 ?_
    refine lv_iload_n hx hb dX11_counts_12 rfl (lv_at hl 1 rfl) ?_
    refine lv_bipush (v := 100) hx hb dX11_counts_13 (by decide) ?_
    refine lv_idiv hx hb dX11_counts_15 (by decide) ?_
    refine lv_iload_n hx hb dX11_counts_16 rfl (lv_at hl 1 rfl) ?_
    refine lv_bipush (v := 100) hx hb dX11_counts_17 (by decide) ?_
    refine w_irem C (by decide) dX11_counts_19 ?_
    obtain ⟨r2, k3, hf⟩ := bd_some hf
    refine w_goI hw (w_runV (rest := []) C hw (zX6_countOf _ _ n st (a1 / (100 : Int32)) (rmI a1 (100 : Int32)) r2 k3) (by decide) (EC_24 X _ _) rfl km_X11_203 ki_yX6_countOf kv_X6_countOf kz_X6 kc_X6_countOf rfl ok_yX6_countOf ⟨Nat.le_of_ble_eq_true rfl, Nat.le_of_ble_eq_true rfl⟩ rfl rfl rfl rfl hl.1 (Nat.le_of_ble_eq_true rfl) dX11_counts_20 ⟨Nat.zero_le _, Nat.zero_le _⟩) (fun H locs hw => ?_)
    refine lv_goto (tgt := 28) hx hb dX11_counts_23 (by decide) ?_
    exact w_iret C hw hr (so2 hf).1 (so2 hf).2 dX11_counts_28
theorem dX11_at_0 : decode cX11_at 0 = .ok (.iload_n 1, 1) := by decide +kernel
theorem dX11_at_1 : decode cX11_at 1 = .ok (.invokestatic 103, 3) := by decide +kernel
theorem dX11_at_4 : decode cX11_at 4 = .ok (.ifCond .ne 5, 3) := by decide +kernel
theorem dX11_at_7 : decode cX11_at 7 = .ok (.iconst (-1), 1) := by decide +kernel
theorem dX11_at_8 : decode cX11_at 8 = .ok (.ireturn, 1) := by decide +kernel
theorem dX11_at_9 : decode cX11_at 9 = .ok (.aload_n 0, 1) := by decide +kernel
theorem dX11_at_10 : decode cX11_at 10 = .ok (.getfield 10, 3) := by decide +kernel
theorem dX11_at_13 : decode cX11_at 13 = .ok (.iload_n 1, 1) := by decide +kernel
theorem dX11_at_14 : decode cX11_at 14 = .ok (.bipush 20, 2) := by decide +kernel
theorem dX11_at_16 : decode cX11_at 16 = .ok (.irem, 1) := by decide +kernel
theorem dX11_at_17 : decode cX11_at 17 = .ok (.iload_n 1, 1) := by decide +kernel
theorem dX11_at_18 : decode cX11_at 18 = .ok (.bipush 20, 2) := by decide +kernel
theorem dX11_at_20 : decode cX11_at 20 = .ok (.idiv, 1) := by decide +kernel
theorem dX11_at_21 : decode cX11_at 21 = .ok (.invokevirtual 206, 3) := by decide +kernel
theorem dX11_at_24 : decode cX11_at 24 = .ok (.istore_n 2, 1) := by decide +kernel
theorem dX11_at_25 : decode cX11_at 25 = .ok (.iload_n 2, 1) := by decide +kernel
theorem dX11_at_26 : decode cX11_at 26 = .ok (.ifCond .ge 8, 3) := by decide +kernel
theorem dX11_at_29 : decode cX11_at 29 = .ok (.bipush (-2), 2) := by decide +kernel
theorem dX11_at_31 : decode cX11_at 31 = .ok (.goto 4, 3) := by decide +kernel
theorem dX11_at_34 : decode cX11_at 34 = .ok (.iload_n 2, 1) := by decide +kernel
theorem dX11_at_35 : decode cX11_at 35 = .ok (.ireturn, 1) := by decide +kernel
theorem ok_yX11_at : yOk yX11_at 1 := ⟨by decide +kernel, by decide +kernel, by decide +kernel⟩
def fX11_at (n : Nat) (st : St) (a1 : Int32) : Option (Int32) := if bI (fX11_isCell a1) = 0 then (some (-1 : Int32)) else ((fX3_fieldAt n st (rmI a1 (20 : Int32)) (a1 / (20 : Int32))).bind (fun r2 => if 0 ≤ r2 then (some r2) else (some (-2 : Int32))))
set_option maxHeartbeats 4000000 in
theorem zX11_at (l : Launch) (X : WX) (n : Nat) (st : St) (a1 : Int32) (R : Int32) (hf : fX11_at n st a1 = some R) : CtI l yX11_at cX11_at 3 .int ({ frames := 2, cells := 0, slots := 0, locals := 42 }) EC 65 X [.ref (xq X 0), .int a1] st R st := by
  refine ct_in (own := RX11) (by decide +kernel) rfl (Nat.le_of_ble_eq_true rfl) (fun p e s m below meth c C hr hw ls hl => ?_)
  obtain ⟨hx, hb, hml, hown, hts⟩ := id C.1
  have hl : lv_has ls 3 [(0, .ref (xq X 0)), (1, .int a1)] := hl
  unfold fX11_at at hf
  refine lv_iload_n hx hb dX11_at_0 rfl (lv_at hl 1 rfl) ?_
  refine w_goI hw (w_runS (rest := []) C hw (zX11_isCell _ _ st a1) km_X11_103 kt_yX11_isCell kz_X11 kc_X11_isCell ok_yX11_isCell ⟨Nat.le_of_ble_eq_true rfl, Nat.le_of_ble_eq_true rfl⟩ rfl rfl rfl rfl hl.1 (Nat.le_of_ble_eq_true rfl) dX11_at_1 ⟨Nat.zero_le _, Nat.zero_le _⟩) (fun H locs hw => ?_)
  refine lv_if_ne (tgt := 9) hx hb dX11_at_4 (by decide) (fun c1 => ?_) (fun c1 => ?_)
  · replace hf := ite_f hf c1
    refine lv_aload_n hx hb dX11_at_9 rfl (lv_at hl 0 rfl) ?_
    refine w_get (T := TX11) C hw (by decide) 0 kf_X11_10 (EC_0 X _ _) rfl inA11 (by decide) rfl dX11_at_10 ?_
    refine lv_iload_n hx hb dX11_at_13 rfl (lv_at hl 1 rfl) ?_
    refine lv_bipush (v := 20) hx hb dX11_at_14 (by decide) ?_
    refine w_irem C (by decide) dX11_at_16 ?_
    refine lv_iload_n hx hb dX11_at_17 rfl (lv_at hl 1 rfl) ?_
    refine lv_bipush (v := 20) hx hb dX11_at_18 (by decide) ?_
    refine lv_idiv hx hb dX11_at_20 (by decide) ?_
    obtain ⟨r2, k3, hf⟩ := bd_some hf
    refine w_goI hw (w_runV (rest := []) C hw (zX3_fieldAt _ _ n st (rmI a1 (20 : Int32)) (a1 / (20 : Int32)) r2 k3) (by decide) (EC_1 X _ _) rfl km_X11_206 ki_yX3_fieldAt kv_X3_fieldAt kz_X3 kc_X3_fieldAt rfl ok_yX3_fieldAt ⟨Nat.le_of_ble_eq_true rfl, Nat.le_of_ble_eq_true rfl⟩ rfl rfl rfl rfl hl.1 (Nat.le_of_ble_eq_true rfl) dX11_at_21 ⟨Nat.zero_le _, Nat.zero_le _⟩) (fun H locs hw => ?_)
    refine lv_istore_n (lv' := [(2, .int r2), (0, .ref (xq X 0)), (1, .int a1)]) hx hb dX11_at_24 rfl hl (by decide) rfl (fun ls hl => ?_)
    refine lv_iload_n hx hb dX11_at_25 rfl (lv_at hl 0 rfl) ?_
    refine lv_if_ge (tgt := 34) hx hb dX11_at_26 (by decide) (fun c4 => ?_) (fun c4 => ?_)
    · replace hf := ite_t hf c4
      refine lv_iload_n hx hb dX11_at_34 rfl (lv_at hl 0 rfl) ?_
      exact w_iret C hw hr (Option.some.inj hf) rfl dX11_at_35
    · replace hf := ite_f hf c4
      refine lv_bipush (v := -2) hx hb dX11_at_29 (by decide) ?_
      refine lv_goto (tgt := 35) hx hb dX11_at_31 (by decide) ?_
      exact w_iret C hw hr (Option.some.inj hf) rfl dX11_at_35
  · replace hf := ite_t hf c1
    refine lv_iconst (v := -1) hx hb dX11_at_7 (by decide) ?_
    exact w_iret C hw hr (Option.some.inj hf) rfl dX11_at_8
theorem dX11_whose_0 : decode cX11_whose 0 = .ok (.aload_n 0, 1) := by decide +kernel
theorem dX11_whose_1 : decode cX11_whose 1 = .ok (.iload_n 1, 1) := by decide +kernel
theorem dX11_whose_2 : decode cX11_whose 2 = .ok (.invokevirtual 179, 3) := by decide +kernel
theorem dX11_whose_5 : decode cX11_whose 5 = .ok (.ifCond .eq 12, 3) := by decide +kernel
theorem dX11_whose_8 : decode cX11_whose 8 = .ok (.iload_n 2, 1) := by decide +kernel
theorem dX11_whose_9 : decode cX11_whose 9 = .ok (.iconst 0, 1) := by decide +kernel
theorem dX11_whose_10 : decode cX11_whose 10 = .ok (.iconst 4, 1) := by decide +kernel
theorem dX11_whose_11 : decode cX11_whose 11 = .ok (.invokestatic 117, 3) := by decide +kernel
theorem dX11_whose_14 : decode cX11_whose 14 = .ok (.ifCond .ne 5, 3) := by decide +kernel
theorem dX11_whose_17 : decode cX11_whose 17 = .ok (.iconst (-1), 1) := by decide +kernel
theorem dX11_whose_18 : decode cX11_whose 18 = .ok (.ireturn, 1) := by decide +kernel
theorem dX11_whose_19 : decode cX11_whose 19 = .ok (.aload_n 0, 1) := by decide +kernel
theorem dX11_whose_20 : decode cX11_whose 20 = .ok (.getfield 10, 3) := by decide +kernel
theorem dX11_whose_23 : decode cX11_whose 23 = .ok (.iload_n 1, 1) := by decide +kernel
theorem dX11_whose_24 : decode cX11_whose 24 = .ok (.invokevirtual 209, 3) := by decide +kernel
theorem dX11_whose_27 : decode cX11_whose 27 = .ok (.istore_n 3, 1) := by decide +kernel
theorem dX11_whose_28 : decode cX11_whose 28 = .ok (.aload_n 0, 1) := by decide +kernel
theorem dX11_whose_29 : decode cX11_whose 29 = .ok (.getfield 10, 3) := by decide +kernel
theorem dX11_whose_32 : decode cX11_whose 32 = .ok (.iload_n 3, 1) := by decide +kernel
theorem dX11_whose_33 : decode cX11_whose 33 = .ok (.invokevirtual 212, 3) := by decide +kernel
theorem dX11_whose_36 : decode cX11_whose 36 = .ok (.istore 4, 2) := by decide +kernel
theorem dX11_whose_38 : decode cX11_whose 38 = .ok (.iload_n 2, 1) := by decide +kernel
theorem dX11_whose_39 : decode cX11_whose 39 = .ok (.ifCond .ne 14, 3) := by decide +kernel
theorem dX11_whose_42 : decode cX11_whose 42 = .ok (.iload_n 3, 1) := by decide +kernel
theorem dX11_whose_43 : decode cX11_whose 43 = .ok (.ifCond .ge 8, 3) := by decide +kernel
theorem dX11_whose_46 : decode cX11_whose 46 = .ok (.bipush (-2), 2) := by decide +kernel
theorem dX11_whose_48 : decode cX11_whose 48 = .ok (.goto 4, 3) := by decide +kernel
theorem dX11_whose_51 : decode cX11_whose 51 = .ok (.iload_n 3, 1) := by decide +kernel
theorem dX11_whose_52 : decode cX11_whose 52 = .ok (.ireturn, 1) := by decide +kernel
theorem dX11_whose_53 : decode cX11_whose 53 = .ok (.iload_n 2, 1) := by decide +kernel
theorem dX11_whose_54 : decode cX11_whose 54 = .ok (.iconst 1, 1) := by decide +kernel
theorem dX11_whose_55 : decode cX11_whose 55 = .ok (.if_icmp .ne 16, 3) := by decide +kernel
theorem dX11_whose_58 : decode cX11_whose 58 = .ok (.iload 4, 2) := by decide +kernel
theorem dX11_whose_60 : decode cX11_whose 60 = .ok (.ifCond .ge 8, 3) := by decide +kernel
theorem dX11_whose_63 : decode cX11_whose 63 = .ok (.bipush (-2), 2) := by decide +kernel
theorem dX11_whose_65 : decode cX11_whose 65 = .ok (.goto 5, 3) := by decide +kernel
theorem dX11_whose_68 : decode cX11_whose 68 = .ok (.iload 4, 2) := by decide +kernel
theorem dX11_whose_70 : decode cX11_whose 70 = .ok (.ireturn, 1) := by decide +kernel
theorem dX11_whose_71 : decode cX11_whose 71 = .ok (.aload_n 0, 1) := by decide +kernel
theorem dX11_whose_72 : decode cX11_whose 72 = .ok (.getfield 35, 3) := by decide +kernel
theorem dX11_whose_75 : decode cX11_whose 75 = .ok (.iload_n 1, 1) := by decide +kernel
theorem dX11_whose_76 : decode cX11_whose 76 = .ok (.iload 4, 2) := by decide +kernel
theorem dX11_whose_78 : decode cX11_whose 78 = .ok (.iconst (-1), 1) := by decide +kernel
theorem dX11_whose_79 : decode cX11_whose 79 = .ok (.invokevirtual 215, 3) := by decide +kernel
theorem dX11_whose_82 : decode cX11_whose 82 = .ok (.iload_n 2, 1) := by decide +kernel
theorem dX11_whose_83 : decode cX11_whose 83 = .ok (.iconst 2, 1) := by decide +kernel
theorem dX11_whose_84 : decode cX11_whose 84 = .ok (.if_icmp .ne 11, 3) := by decide +kernel
theorem dX11_whose_87 : decode cX11_whose 87 = .ok (.aload_n 0, 1) := by decide +kernel
theorem dX11_whose_88 : decode cX11_whose 88 = .ok (.getfield 35, 3) := by decide +kernel
theorem dX11_whose_91 : decode cX11_whose 91 = .ok (.getfield 219, 3) := by decide +kernel
theorem dX11_whose_94 : decode cX11_whose 94 = .ok (.ireturn, 1) := by decide +kernel
theorem dX11_whose_95 : decode cX11_whose 95 = .ok (.iload_n 2, 1) := by decide +kernel
theorem dX11_whose_96 : decode cX11_whose 96 = .ok (.iconst 3, 1) := by decide +kernel
theorem dX11_whose_97 : decode cX11_whose 97 = .ok (.if_icmp .ne 13, 3) := by decide +kernel
theorem dX11_whose_100 : decode cX11_whose 100 = .ok (.aload_n 0, 1) := by decide +kernel
theorem dX11_whose_101 : decode cX11_whose 101 = .ok (.getfield 35, 3) := by decide +kernel
theorem dX11_whose_104 : decode cX11_whose 104 = .ok (.getfield 222, 3) := by decide +kernel
theorem dX11_whose_107 : decode cX11_whose 107 = .ok (.goto 10, 3) := by decide +kernel
theorem dX11_whose_110 : decode cX11_whose 110 = .ok (.aload_n 0, 1) := by decide +kernel
theorem dX11_whose_111 : decode cX11_whose 111 = .ok (.getfield 35, 3) := by decide +kernel
theorem dX11_whose_114 : decode cX11_whose 114 = .ok (.getfield 225, 3) := by decide +kernel
theorem dX11_whose_117 : decode cX11_whose 117 = .ok (.ireturn, 1) := by decide +kernel
theorem ok_yX11_whose : yOk yX11_whose 2 := ⟨by decide +kernel, by decide +kernel, by decide +kernel⟩
def fX11_whose (n : Nat) (st : St) (a1 : Int32) (a2 : Int32) : Option (Int32 × St) := if bI (fX11_isFall st a1) = 0 then (some ((-1 : Int32), st)) else (if bI (fX11_isWithin a2 (0 : Int32) (4 : Int32)) = 0 then (some ((-1 : Int32), st)) else ((fX3_fieldUnder n st a1).bind (fun r3 => (fX3_ownerOf st r3).bind (fun r5 => if a2 = 0 then (if 0 ≤ r3 then (some (r3, st)) else (some ((-2 : Int32), st))) else (if a2 = (1 : Int32) then (if 0 ≤ r5 then (some (r5, st)) else (some ((-2 : Int32), st))) else ((fX6_weigh n st a1 r5 (-1 : Int32)).bind (fun r9 => if a2 = (2 : Int32) then (some ((gI r9 24 3), r9)) else (if a2 = (3 : Int32) then (some ((gI r9 24 2), r9)) else (some ((gI r9 24 1), r9))))))))))
set_option maxHeartbeats 4000000 in
theorem zX11_whose (l : Launch) (X : WX) (n : Nat) (st : St) (a1 : Int32) (a2 : Int32) (R : Int32 × St) (hf : fX11_whose n st a1 a2 = some R) : CtI l yX11_whose cX11_whose 5 .int ({ frames := 4, cells := 0, slots := 0, locals := 103 }) EC 65 X [.ref (xq X 0), .int a1, .int a2] st R.1 R.2 := by
  refine ct_in (own := RX11) (by decide +kernel) rfl (Nat.le_of_ble_eq_true rfl) (fun p e s m below meth c C hr hw ls hl => ?_)
  obtain ⟨hx, hb, hml, hown, hts⟩ := id C.1
  have hl : lv_has ls 5 [(0, .ref (xq X 0)), (1, .int a1), (2, .int a2)] := hl
  unfold fX11_whose at hf
  refine lv_aload_n hx hb dX11_whose_0 rfl (lv_at hl 0 rfl) ?_
  refine lv_iload_n hx hb dX11_whose_1 rfl (lv_at hl 1 rfl) ?_
  refine w_goI hw (w_runV (rest := []) C hw (zX11_isFall _ _ st a1) (by decide) (EC_0 X _ _) rfl km_X11_179 ki_yX11_isFall kv_X11_isFall kz_X11 kc_X11_isFall rfl ok_yX11_isFall ⟨Nat.le_of_ble_eq_true rfl, Nat.le_of_ble_eq_true rfl⟩ rfl rfl rfl rfl hl.1 (Nat.le_of_ble_eq_true rfl) dX11_whose_2 ⟨Nat.zero_le _, Nat.zero_le _⟩) (fun H locs hw => ?_)
  refine lv_if_eq (tgt := 17) hx hb dX11_whose_5 (by decide) (fun c1 => ?_) (fun c1 => ?_)
  · replace hf := ite_t hf c1
    refine lv_iconst (v := -1) hx hb dX11_whose_17 (by decide) ?_
    exact w_iret C hw hr (so2 hf).1 (so2 hf).2 dX11_whose_18
  · replace hf := ite_f hf c1
    refine lv_iload_n hx hb dX11_whose_8 rfl (lv_at hl 2 rfl) ?_
    refine lv_iconst (v := 0) hx hb dX11_whose_9 (by decide) ?_
    refine lv_iconst (v := 4) hx hb dX11_whose_10 (by decide) ?_
    refine w_goI hw (w_runS (rest := []) C hw (zX11_isWithin _ _ st a2 (0 : Int32) (4 : Int32)) km_X11_117 kt_yX11_isWithin kz_X11 kc_X11_isWithin ok_yX11_isWithin ⟨Nat.le_of_ble_eq_true rfl, Nat.le_of_ble_eq_true rfl⟩ rfl rfl rfl rfl hl.1 (Nat.le_of_ble_eq_true rfl) dX11_whose_11 ⟨Nat.zero_le _, Nat.zero_le _⟩) (fun H locs hw => ?_)
    refine lv_if_ne (tgt := 19) hx hb dX11_whose_14 (by decide) (fun c2 => ?_) (fun c2 => ?_)
    · replace hf := ite_f hf c2
      refine lv_aload_n hx hb dX11_whose_19 rfl (lv_at hl 0 rfl) ?_
      refine w_get (T := TX11) C hw (by decide) 0 kf_X11_10 (EC_0 X _ _) rfl inA11 (by decide) rfl dX11_whose_20 ?_
      refine lv_iload_n hx hb dX11_whose_23 rfl (lv_at hl 1 rfl) ?_
      obtain ⟨r3, k4, hf⟩ := bd_some hf
      refine w_goI hw (w_runV (rest := []) C hw (zX3_fieldUnder _ _ n st a1 r3 k4) (by decide) (EC_1 X _ _) rfl km_X11_209 ki_yX3_fieldUnder kv_X3_fieldUnder kz_X3 kc_X3_fieldUnder rfl ok_yX3_fieldUnder ⟨Nat.le_of_ble_eq_true rfl, Nat.le_of_ble_eq_true rfl⟩ rfl rfl rfl rfl hl.1 (Nat.le_of_ble_eq_true rfl) dX11_whose_24 ⟨Nat.zero_le _, Nat.zero_le _⟩) (fun H locs hw => ?_)
      refine lv_istore_n (lv' := [(3, .int r3), (0, .ref (xq X 0)), (1, .int a1), (2, .int a2)]) hx hb dX11_whose_27 rfl hl (by decide) rfl (fun ls hl => ?_)
      refine lv_aload_n hx hb dX11_whose_28 rfl (lv_at hl 1 rfl) ?_
      refine w_get (T := TX11) C hw (by decide) 0 kf_X11_10 (EC_0 X _ _) rfl inA11 (by decide) rfl dX11_whose_29 ?_
      refine lv_iload_n hx hb dX11_whose_32 rfl (lv_at hl 0 rfl) ?_
      obtain ⟨r5, k6, hf⟩ := bd_some hf
      refine w_goI hw (w_runV (rest := []) C hw (zX3_ownerOf _ _ st r3 r5 k6) (by decide) (EC_1 X _ _) rfl km_X11_212 ki_yX3_ownerOf kv_X3_ownerOf kz_X3 kc_X3_ownerOf rfl ok_yX3_ownerOf ⟨Nat.le_of_ble_eq_true rfl, Nat.le_of_ble_eq_true rfl⟩ rfl rfl rfl rfl hl.1 (Nat.le_of_ble_eq_true rfl) dX11_whose_33 ⟨Nat.zero_le _, Nat.zero_le _⟩) (fun H locs hw => ?_)
      refine lv_istore (lv' := [(4, .int r5), (3, .int r3), (0, .ref (xq X 0)), (1, .int a1), (2, .int a2)]) hx hb dX11_whose_36 hl (by decide) rfl (fun ls hl => ?_)
      refine lv_iload_n hx hb dX11_whose_38 rfl (lv_at hl 4 rfl) ?_
      refine lv_if_ne (tgt := 53) hx hb dX11_whose_39 (by decide) (fun c7 => ?_) (fun c7 => ?_)
      · replace hf := ite_f hf c7
        refine lv_iload_n hx hb dX11_whose_53 rfl (lv_at hl 4 rfl) ?_
        refine lv_iconst (v := 1) hx hb dX11_whose_54 (by decide) ?_
        refine lv_icmp_ne (tgt := 71) hx hb dX11_whose_55 (by decide) (fun c8 => ?_) (fun c8 => ?_)
        · replace hf := ite_f hf c8
          refine lv_aload_n hx hb dX11_whose_71 rfl (lv_at hl 2 rfl) ?_
          refine w_get (T := TX11) C hw (by decide) 3 kf_X11_35 (EC_0 X _ _) rfl inA11 (by decide) rfl dX11_whose_72 ?_
          refine lv_iload_n hx hb dX11_whose_75 rfl (lv_at hl 3 rfl) ?_
          refine lv_iload hx hb dX11_whose_76 (lv_at hl 0 rfl) ?_
          refine lv_iconst (v := -1) hx hb dX11_whose_78 (by decide) ?_
          obtain ⟨r9, k10, hf⟩ := bd_some hf
          refine w_goV hw (w_runV (rest := []) C hw (zX6_weigh _ _ n st a1 r5 (-1 : Int32) r9 k10) (by decide) (EC_24 X _ _) rfl km_X11_215 ki_yX6_weigh kv_X6_weigh kz_X6 kc_X6_weigh rfl ok_yX6_weigh ⟨Nat.le_of_ble_eq_true rfl, Nat.le_of_ble_eq_true rfl⟩ rfl rfl rfl rfl hl.1 (Nat.le_of_ble_eq_true rfl) dX11_whose_79 ⟨Nat.zero_le _, Nat.zero_le _⟩) (fun H locs hw => ?_)
          refine lv_iload_n hx hb dX11_whose_82 rfl (lv_at hl 4 rfl) ?_
          refine lv_iconst (v := 2) hx hb dX11_whose_83 (by decide) ?_
          refine lv_icmp_ne (tgt := 95) hx hb dX11_whose_84 (by decide) (fun c11 => ?_) (fun c11 => ?_)
          · replace hf := ite_f hf c11
            refine lv_iload_n hx hb dX11_whose_95 rfl (lv_at hl 4 rfl) ?_
            refine lv_iconst (v := 3) hx hb dX11_whose_96 (by decide) ?_
            refine lv_icmp_ne (tgt := 110) hx hb dX11_whose_97 (by decide) (fun c12 => ?_) (fun c12 => ?_)
            · replace hf := ite_f hf c12
              refine lv_aload_n hx hb dX11_whose_110 rfl (lv_at hl 2 rfl) ?_
              refine w_get (T := TX11) C hw (by decide) 3 kf_X11_35 (EC_0 X _ _) rfl inA11 (by decide) rfl dX11_whose_111 ?_
              refine w_get (T := TX6) C hw (by decide) 1 kf_X11_225 (EC_24 X _ _) rfl inA6 (by decide) rfl dX11_whose_114 ?_
              exact w_iret C hw hr (so2 hf).1 (so2 hf).2 dX11_whose_117
            · replace hf := ite_t hf c12
              refine lv_aload_n hx hb dX11_whose_100 rfl (lv_at hl 2 rfl) ?_
              refine w_get (T := TX11) C hw (by decide) 3 kf_X11_35 (EC_0 X _ _) rfl inA11 (by decide) rfl dX11_whose_101 ?_
              refine w_get (T := TX6) C hw (by decide) 2 kf_X11_222 (EC_24 X _ _) rfl inA6 (by decide) rfl dX11_whose_104 ?_
              refine lv_goto (tgt := 117) hx hb dX11_whose_107 (by decide) ?_
              exact w_iret C hw hr (so2 hf).1 (so2 hf).2 dX11_whose_117
          · replace hf := ite_t hf c11
            refine lv_aload_n hx hb dX11_whose_87 rfl (lv_at hl 2 rfl) ?_
            refine w_get (T := TX11) C hw (by decide) 3 kf_X11_35 (EC_0 X _ _) rfl inA11 (by decide) rfl dX11_whose_88 ?_
            refine w_get (T := TX6) C hw (by decide) 3 kf_X11_219 (EC_24 X _ _) rfl inA6 (by decide) rfl dX11_whose_91 ?_
            exact w_iret C hw hr (so2 hf).1 (so2 hf).2 dX11_whose_94
        · replace hf := ite_t hf c8
          refine lv_iload hx hb dX11_whose_58 (lv_at hl 0 rfl) ?_
          refine lv_if_ge (tgt := 68) hx hb dX11_whose_60 (by decide) (fun c13 => ?_) (fun c13 => ?_)
          · replace hf := ite_t hf c13
            refine lv_iload hx hb dX11_whose_68 (lv_at hl 0 rfl) ?_
            exact w_iret C hw hr (so2 hf).1 (so2 hf).2 dX11_whose_70
          · replace hf := ite_f hf c13
            refine lv_bipush (v := -2) hx hb dX11_whose_63 (by decide) ?_
            refine lv_goto (tgt := 70) hx hb dX11_whose_65 (by decide) ?_
            exact w_iret C hw hr (so2 hf).1 (so2 hf).2 dX11_whose_70
      · replace hf := ite_t hf c7
        refine lv_iload_n hx hb dX11_whose_42 rfl (lv_at hl 1 rfl) ?_
        refine lv_if_ge (tgt := 51) hx hb dX11_whose_43 (by decide) (fun c14 => ?_) (fun c14 => ?_)
        · replace hf := ite_t hf c14
          refine lv_iload_n hx hb dX11_whose_51 rfl (lv_at hl 1 rfl) ?_
          exact w_iret C hw hr (so2 hf).1 (so2 hf).2 dX11_whose_52
        · replace hf := ite_f hf c14
          refine lv_bipush (v := -2) hx hb dX11_whose_46 (by decide) ?_
          refine lv_goto (tgt := 52) hx hb dX11_whose_48 (by decide) ?_
          exact w_iret C hw hr (so2 hf).1 (so2 hf).2 dX11_whose_52
    · replace hf := ite_t hf c2
      refine lv_iconst (v := -1) hx hb dX11_whose_17 (by decide) ?_
      exact w_iret C hw hr (so2 hf).1 (so2 hf).2 dX11_whose_18
theorem dX11_owed_0 : decode cX11_owed 0 = .ok (.iload_n 1, 1) := by decide +kernel
theorem dX11_owed_1 : decode cX11_owed 1 = .ok (.bipush (-6), 2) := by decide +kernel
theorem dX11_owed_3 : decode cX11_owed 3 = .ok (.iconst (-1), 1) := by decide +kernel
theorem dX11_owed_4 : decode cX11_owed 4 = .ok (.invokestatic 117, 3) := by decide +kernel
theorem dX11_owed_7 : decode cX11_owed 7 = .ok (.istore_n 2, 1) := by decide +kernel
theorem dX11_owed_8 : decode cX11_owed 8 = .ok (.iload_n 1, 1) := by decide +kernel
theorem dX11_owed_9 : decode cX11_owed 9 = .ok (.bipush (-16), 2) := by decide +kernel
theorem dX11_owed_11 : decode cX11_owed 11 = .ok (.bipush (-11), 2) := by decide +kernel
theorem dX11_owed_13 : decode cX11_owed 13 = .ok (.invokestatic 117, 3) := by decide +kernel
theorem dX11_owed_16 : decode cX11_owed 16 = .ok (.istore_n 3, 1) := by decide +kernel
theorem dX11_owed_17 : decode cX11_owed 17 = .ok (.iload_n 2, 1) := by decide +kernel
theorem dX11_owed_18 : decode cX11_owed 18 = .ok (.ifCond .ne 17, 3) := by decide +kernel
theorem dX11_owed_21 : decode cX11_owed 21 = .ok (.iload_n 3, 1) := by decide +kernel
theorem dX11_owed_22 : decode cX11_owed 22 = .ok (.ifCond .ne 13, 3) := by decide +kernel
theorem dX11_owed_25 : decode cX11_owed 25 = .ok (.iload_n 1, 1) := by decide +kernel
theorem dX11_owed_26 : decode cX11_owed 26 = .ok (.invokestatic 228, 3) := by decide +kernel
theorem dX11_owed_29 : decode cX11_owed 29 = .ok (.ifCond .ne 6, 3) := by decide +kernel
theorem dX11_owed_32 : decode cX11_owed 32 = .ok (.ldc 170, 2) := by decide +kernel
theorem dX11_owed_34 : decode cX11_owed 34 = .ok (.ireturn, 1) := by decide +kernel
theorem dX11_owed_35 : decode cX11_owed 35 = .ok (.aload_n 0, 1) := by decide +kernel
theorem dX11_owed_36 : decode cX11_owed 36 = .ok (.getfield 35, 3) := by decide +kernel
theorem dX11_owed_39 : decode cX11_owed 39 = .ok (.invokevirtual 231, 3) := by decide +kernel
theorem dX11_owed_42 : decode cX11_owed 42 = .ok (.iload_n 2, 1) := by decide +kernel
theorem dX11_owed_43 : decode cX11_owed 43 = .ok (.ifCond .eq 14, 3) := by decide +kernel
theorem dX11_owed_46 : decode cX11_owed 46 = .ok (.aload_n 0, 1) := by decide +kernel
theorem dX11_owed_47 : decode cX11_owed 47 = .ok (.getfield 35, 3) := by decide +kernel
theorem dX11_owed_50 : decode cX11_owed 50 = .ok (.iconst (-1), 1) := by decide +kernel
theorem dX11_owed_51 : decode cX11_owed 51 = .ok (.iload_n 1, 1) := by decide +kernel
theorem dX11_owed_52 : decode cX11_owed 52 = .ok (.isub, 1) := by decide +kernel
theorem dX11_owed_53 : decode cX11_owed 53 = .ok (.invokevirtual 234, 3) := by decide +kernel
theorem dX11_owed_56 : decode cX11_owed 56 = .ok (.ireturn, 1) := by decide +kernel
theorem dX11_owed_57 : decode cX11_owed 57 = .ok (.iload_n 3, 1) := by decide +kernel
theorem dX11_owed_58 : decode cX11_owed 58 = .ok (.ifCond .eq 17, 3) := by decide +kernel
theorem dX11_owed_61 : decode cX11_owed 61 = .ok (.aload_n 0, 1) := by decide +kernel
theorem dX11_owed_62 : decode cX11_owed 62 = .ok (.getfield 35, 3) := by decide +kernel
theorem dX11_owed_65 : decode cX11_owed 65 = .ok (.bipush (-11), 2) := by decide +kernel
theorem dX11_owed_67 : decode cX11_owed 67 = .ok (.iload_n 1, 1) := by decide +kernel
theorem dX11_owed_68 : decode cX11_owed 68 = .ok (.isub, 1) := by decide +kernel
theorem dX11_owed_69 : decode cX11_owed 69 = .ok (.invokevirtual 237, 3) := by decide +kernel
theorem dX11_owed_72 : decode cX11_owed 72 = .ok (.goto 15, 3) := by decide +kernel
theorem dX11_owed_75 : decode cX11_owed 75 = .ok (.aload_n 0, 1) := by decide +kernel
theorem dX11_owed_76 : decode cX11_owed 76 = .ok (.getfield 35, 3) := by decide +kernel
theorem dX11_owed_79 : decode cX11_owed 79 = .ok (.getfield 240, 3) := by decide +kernel
theorem dX11_owed_82 : decode cX11_owed 82 = .ok (.iload_n 1, 1) := by decide +kernel
theorem dX11_owed_83 : decode cX11_owed 83 = .ok (.invokestatic 243, 3) := by decide +kernel
theorem dX11_owed_86 : decode cX11_owed 86 = .ok (.iaload, 1) := by decide +kernel
theorem dX11_owed_87 : decode cX11_owed 87 = .ok (.ireturn, 1) := by decide +kernel
theorem ok_yX11_owed : yOk yX11_owed 1 := ⟨by decide +kernel, by decide +kernel, by decide +kernel⟩
def fX11_owed_35 (n : Nat) (st : St) (v1 : Int32) (v2 : Int32) (v3 : Int32) : Option (Int32 × St) := (fX6_reckonDebts n st).bind (fun r8 => if v2 = 0 then (if v3 = 0 then (gd (inB (fX11_debtAt v1) 36) (some ((gI r8 25 (fX11_debtAt v1).toNatClampNeg), r8))) else ((fX6_isOwed n r8 ((-11 : Int32) - v1)).bind (fun r13 => some (r13, r8)))) else ((fX6_owes n r8 ((-1 : Int32) - v1)).bind (fun r15 => some (r15, r8))))
set_option maxHeartbeats 4000000 in
theorem tX11_owed_35 {p : Program} {l : Launch} {e : Env} {s : State} {m : MethodId} {args : Array Value} {below : List Frame} {meth : Method} {c : Code} {X : WX} (C : Amb 65 X p s m args meth c cX11_owed 4 RX11) (hr : meth.sig.returnType = some .int) {R : Int32 × St} {n : Nat} : ∀ (st : St) (v1 : Int32) (v2 : Int32) (v3 : Int32) (H : Heap) (locs : List Loc) (ls : Array Slot), Wd EC 65 X s.heap st H locs → lv_has ls 4 [(0, .ref (xq X 0)), (1, .int v1), (2, .int v2), (3, .int v3)] → fX11_owed_35 n st v1 v2 v3 = some R → W p l e { frames := 6, cells := 0, slots := 0, locals := 151 } s m args below meth c H locs 0 0 (QI EC 65 X R.1 R.2 below args s) (F0 m 35 ls []) := by
  obtain ⟨hx, hb, hml, hown, hts⟩ := id C.1
  intro st v1 v2 v3 H locs ls  hw hl hf
  unfold fX11_owed_35 at hf
  refine lv_aload_n hx hb dX11_owed_35 rfl (lv_at hl 0 rfl) ?_
  refine w_get (T := TX11) C hw (by decide) 3 kf_X11_35 (EC_0 X _ _) rfl inA11 (by decide) rfl dX11_owed_36 ?_
  obtain ⟨r8, k9, hf⟩ := bd_some hf
  refine w_goV hw (w_runV (rest := []) C hw (zX6_reckonDebts _ _ n st r8 k9) (by decide) (EC_24 X _ _) rfl km_X11_231 ki_yX6_reckonDebts kv_X6_reckonDebts kz_X6 kc_X6_reckonDebts rfl ok_yX6_reckonDebts ⟨Nat.le_of_ble_eq_true rfl, Nat.le_of_ble_eq_true rfl⟩ rfl rfl rfl rfl hl.1 (Nat.le_of_ble_eq_true rfl) dX11_owed_39 ⟨Nat.zero_le _, Nat.zero_le _⟩) (fun H locs hw => ?_)
  refine lv_iload_n hx hb dX11_owed_42 rfl (lv_at hl 2 rfl) ?_
  refine lv_if_eq (tgt := 57) hx hb dX11_owed_43 (by decide) (fun c10 => ?_) (fun c10 => ?_)
  · replace hf := ite_t hf c10
    refine lv_iload_n hx hb dX11_owed_57 rfl (lv_at hl 3 rfl) ?_
    refine lv_if_eq (tgt := 75) hx hb dX11_owed_58 (by decide) (fun c11 => ?_) (fun c11 => ?_)
    · replace hf := ite_t hf c11
      refine lv_aload_n hx hb dX11_owed_75 rfl (lv_at hl 0 rfl) ?_
      refine w_get (T := TX11) C hw (by decide) 3 kf_X11_35 (EC_0 X _ _) rfl inA11 (by decide) rfl dX11_owed_76 ?_
      refine w_get (T := TX6) C hw (by decide) 0 kf_X11_240 (EC_24 X _ _) rfl inA6 (by decide) rfl dX11_owed_79 ?_
      refine lv_iload_n hx hb dX11_owed_82 rfl (lv_at hl 1 rfl) ?_
      refine w_goI hw (w_runS (rest := [.ref (xq X 25)]) C hw (zX11_debtAt _ _ r8 v1) km_X11_243 kt_yX11_debtAt kz_X11 kc_X11_debtAt ok_yX11_debtAt ⟨Nat.le_of_ble_eq_true rfl, Nat.le_of_ble_eq_true rfl⟩ rfl rfl rfl rfl hl.1 (Nat.le_of_ble_eq_true rfl) dX11_owed_83 ⟨Nat.zero_le _, Nat.zero_le _⟩) (fun H locs hw => ?_)
      obtain ⟨h12, hf⟩ := gd_some hf
      refine w_iald C hw (by decide) (EC_25 X _ _) h12 rfl dX11_owed_86 ?_
      exact w_iret C hw hr (so2 hf).1 (so2 hf).2 dX11_owed_87
    · replace hf := ite_f hf c11
      refine lv_aload_n hx hb dX11_owed_61 rfl (lv_at hl 0 rfl) ?_
      refine w_get (T := TX11) C hw (by decide) 3 kf_X11_35 (EC_0 X _ _) rfl inA11 (by decide) rfl dX11_owed_62 ?_
      refine lv_bipush (v := -11) hx hb dX11_owed_65 (by decide) ?_
      refine lv_iload_n hx hb dX11_owed_67 rfl (lv_at hl 1 rfl) ?_
      refine lv_isub hx hb dX11_owed_68 ?_
      obtain ⟨r13, k14, hf⟩ := bd_some hf
      refine w_goI hw (w_runV (rest := []) C hw (zX6_isOwed _ _ n r8 ((-11 : Int32) - v1) r13 k14) (by decide) (EC_24 X _ _) rfl km_X11_237 ki_yX6_isOwed kv_X6_isOwed kz_X6 kc_X6_isOwed rfl ok_yX6_isOwed ⟨Nat.le_of_ble_eq_true rfl, Nat.le_of_ble_eq_true rfl⟩ rfl rfl rfl rfl hl.1 (Nat.le_of_ble_eq_true rfl) dX11_owed_69 ⟨Nat.zero_le _, Nat.zero_le _⟩) (fun H locs hw => ?_)
      refine lv_goto (tgt := 87) hx hb dX11_owed_72 (by decide) ?_
      exact w_iret C hw hr (so2 hf).1 (so2 hf).2 dX11_owed_87
  · replace hf := ite_f hf c10
    refine lv_aload_n hx hb dX11_owed_46 rfl (lv_at hl 0 rfl) ?_
    refine w_get (T := TX11) C hw (by decide) 3 kf_X11_35 (EC_0 X _ _) rfl inA11 (by decide) rfl dX11_owed_47 ?_
    refine lv_iconst (v := -1) hx hb dX11_owed_50 (by decide) ?_
    refine lv_iload_n hx hb dX11_owed_51 rfl (lv_at hl 1 rfl) ?_
    refine lv_isub hx hb dX11_owed_52 ?_
    obtain ⟨r15, k16, hf⟩ := bd_some hf
    refine w_goI hw (w_runV (rest := []) C hw (zX6_owes _ _ n r8 ((-1 : Int32) - v1) r15 k16) (by decide) (EC_24 X _ _) rfl km_X11_234 ki_yX6_owes kv_X6_owes kz_X6 kc_X6_owes rfl ok_yX6_owes ⟨Nat.le_of_ble_eq_true rfl, Nat.le_of_ble_eq_true rfl⟩ rfl rfl rfl rfl hl.1 (Nat.le_of_ble_eq_true rfl) dX11_owed_53 ⟨Nat.zero_le _, Nat.zero_le _⟩) (fun H locs hw => ?_)
    exact w_iret C hw hr (so2 hf).1 (so2 hf).2 dX11_owed_56
def fX11_owed (n : Nat) (st : St) (a1 : Int32) : Option (Int32 × St) := bnd (bI (fX11_isWithin a1 (-6 : Int32) (-1 : Int32))) (fun x1 => bnd (bI (fX11_isWithin a1 (-16 : Int32) (-11 : Int32))) (fun x3 => if x1 = 0 then (if x3 = 0 then (if bI (fX11_isPair a1) = 0 then (some ((-2000000000 : Int32), st)) else (fX11_owed_35 n st a1 x1 x3)) else (fX11_owed_35 n st a1 x1 x3)) else (fX11_owed_35 n st a1 x1 x3)))
set_option maxHeartbeats 4000000 in
theorem zX11_owed (l : Launch) (X : WX) (n : Nat) (st : St) (a1 : Int32) (R : Int32 × St) (hf : fX11_owed n st a1 = some R) : CtI l yX11_owed cX11_owed 4 .int ({ frames := 6, cells := 0, slots := 0, locals := 151 }) EC 65 X [.ref (xq X 0), .int a1] st R.1 R.2 := by
  refine ct_in (own := RX11) (by decide +kernel) rfl (Nat.le_of_ble_eq_true rfl) (fun p e s m below meth c C hr hw ls hl => ?_)
  obtain ⟨hx, hb, hml, hown, hts⟩ := id C.1
  have hl : lv_has ls 4 [(0, .ref (xq X 0)), (1, .int a1)] := hl
  unfold fX11_owed at hf
  refine lv_iload_n hx hb dX11_owed_0 rfl (lv_at hl 1 rfl) ?_
  refine lv_bipush (v := -6) hx hb dX11_owed_1 (by decide) ?_
  refine lv_iconst (v := -1) hx hb dX11_owed_3 (by decide) ?_
  refine w_goI hw (w_runS (rest := []) C hw (zX11_isWithin _ _ st a1 (-6 : Int32) (-1 : Int32)) km_X11_117 kt_yX11_isWithin kz_X11 kc_X11_isWithin ok_yX11_isWithin ⟨Nat.le_of_ble_eq_true rfl, Nat.le_of_ble_eq_true rfl⟩ rfl rfl rfl rfl hl.1 (Nat.le_of_ble_eq_true rfl) dX11_owed_4 ⟨Nat.zero_le _, Nat.zero_le _⟩) (fun H locs hw => ?_)
  refine lv_topi (fun x1 e2 => ?_)
  replace hf := bnd_nm hf e2
  refine lv_istore_n (lv' := [(2, .int x1), (0, .ref (xq X 0)), (1, .int a1)]) hx hb dX11_owed_7 rfl hl (by decide) rfl (fun ls hl => ?_)
  refine lv_iload_n hx hb dX11_owed_8 rfl (lv_at hl 2 rfl) ?_
  refine lv_bipush (v := -16) hx hb dX11_owed_9 (by decide) ?_
  refine lv_bipush (v := -11) hx hb dX11_owed_11 (by decide) ?_
  refine w_goI hw (w_runS (rest := []) C hw (zX11_isWithin _ _ st a1 (-16 : Int32) (-11 : Int32)) km_X11_117 kt_yX11_isWithin kz_X11 kc_X11_isWithin ok_yX11_isWithin ⟨Nat.le_of_ble_eq_true rfl, Nat.le_of_ble_eq_true rfl⟩ rfl rfl rfl rfl hl.1 (Nat.le_of_ble_eq_true rfl) dX11_owed_13 ⟨Nat.zero_le _, Nat.zero_le _⟩) (fun H locs hw => ?_)
  refine lv_topi (fun x3 e4 => ?_)
  replace hf := bnd_nm hf e4
  refine lv_istore_n (lv' := [(3, .int x3), (2, .int x1), (0, .ref (xq X 0)), (1, .int a1)]) hx hb dX11_owed_16 rfl hl (by decide) rfl (fun ls hl => ?_)
  refine lv_iload_n hx hb dX11_owed_17 rfl (lv_at hl 1 rfl) ?_
  refine lv_if_ne (tgt := 35) hx hb dX11_owed_18 (by decide) (fun c5 => ?_) (fun c5 => ?_)
  · replace hf := ite_f hf c5
    exact tX11_owed_35 C hr st a1 x1 x3 _ _ _ hw (lv_sub hl [2, 3, 1, 0] rfl) hf
  · replace hf := ite_t hf c5
    refine lv_iload_n hx hb dX11_owed_21 rfl (lv_at hl 0 rfl) ?_
    refine lv_if_ne (tgt := 35) hx hb dX11_owed_22 (by decide) (fun c6 => ?_) (fun c6 => ?_)
    · replace hf := ite_f hf c6
      exact tX11_owed_35 C hr st a1 x1 x3 _ _ _ hw (lv_sub hl [2, 3, 1, 0] rfl) hf
    · replace hf := ite_t hf c6
      refine lv_iload_n hx hb dX11_owed_25 rfl (lv_at hl 3 rfl) ?_
      refine w_goI hw (w_runS (rest := []) C hw (zX11_isPair _ _ st a1) km_X11_228 kt_yX11_isPair kz_X11 kc_X11_isPair ok_yX11_isPair ⟨Nat.le_of_ble_eq_true rfl, Nat.le_of_ble_eq_true rfl⟩ rfl rfl rfl rfl hl.1 (Nat.le_of_ble_eq_true rfl) dX11_owed_26 ⟨Nat.zero_le _, Nat.zero_le _⟩) (fun H locs hw => ?_)
      refine lv_if_ne (tgt := 35) hx hb dX11_owed_29 (by decide) (fun c7 => ?_) (fun c7 => ?_)
      · replace hf := ite_f hf c7
        exact tX11_owed_35 C hr st a1 x1 x3 _ _ _ hw (lv_sub hl [2, 3, 1, 0] rfl) hf
      · replace hf := ite_t hf c7
        refine lv_ldc (v := -2000000000) hx hb hown (hts _ kn_X11_170) dX11_owed_32 ?_
        exact w_iret C hw hr (so2 hf).1 (so2 hf).2 dX11_owed_34
theorem dX11_who_0 : decode cX11_who 0 = .ok (.iload_n 1, 1) := by decide +kernel
theorem dX11_who_1 : decode cX11_who 1 = .ok (.tableswitch 75 0 4 #[35, 43, 51, 59, 67], 35) := by decide +kernel
theorem dX11_who_36 : decode cX11_who 36 = .ok (.aload_n 0, 1) := by decide +kernel
theorem dX11_who_37 : decode cX11_who 37 = .ok (.getfield 35, 3) := by decide +kernel
theorem dX11_who_40 : decode cX11_who 40 = .ok (.invokevirtual 246, 3) := by decide +kernel
theorem dX11_who_43 : decode cX11_who 43 = .ok (.ireturn, 1) := by decide +kernel
theorem dX11_who_44 : decode cX11_who 44 = .ok (.aload_n 0, 1) := by decide +kernel
theorem dX11_who_45 : decode cX11_who 45 = .ok (.getfield 35, 3) := by decide +kernel
theorem dX11_who_48 : decode cX11_who 48 = .ok (.invokevirtual 250, 3) := by decide +kernel
theorem dX11_who_51 : decode cX11_who 51 = .ok (.ireturn, 1) := by decide +kernel
theorem dX11_who_52 : decode cX11_who 52 = .ok (.aload_n 0, 1) := by decide +kernel
theorem dX11_who_53 : decode cX11_who 53 = .ok (.getfield 35, 3) := by decide +kernel
theorem dX11_who_56 : decode cX11_who 56 = .ok (.invokevirtual 253, 3) := by decide +kernel
theorem dX11_who_59 : decode cX11_who 59 = .ok (.ireturn, 1) := by decide +kernel
theorem dX11_who_60 : decode cX11_who 60 = .ok (.aload_n 0, 1) := by decide +kernel
theorem dX11_who_61 : decode cX11_who 61 = .ok (.getfield 35, 3) := by decide +kernel
theorem dX11_who_64 : decode cX11_who 64 = .ok (.invokevirtual 256, 3) := by decide +kernel
theorem dX11_who_67 : decode cX11_who 67 = .ok (.ireturn, 1) := by decide +kernel
theorem dX11_who_68 : decode cX11_who 68 = .ok (.aload_n 0, 1) := by decide +kernel
theorem dX11_who_69 : decode cX11_who 69 = .ok (.getfield 35, 3) := by decide +kernel
theorem dX11_who_72 : decode cX11_who 72 = .ok (.invokevirtual 259, 3) := by decide +kernel
theorem dX11_who_75 : decode cX11_who 75 = .ok (.ireturn, 1) := by decide +kernel
theorem dX11_who_76 : decode cX11_who 76 = .ok (.iconst (-1), 1) := by decide +kernel
theorem dX11_who_77 : decode cX11_who 77 = .ok (.ireturn, 1) := by decide +kernel
theorem ok_yX11_who : yOk yX11_who 1 := ⟨by decide +kernel, by decide +kernel, by decide +kernel⟩
def fX11_who (n : Nat) (st : St) (a1 : Int32) : Option (Int32 × St) := if a1 = 0 then ((fX6_quarrel n st).bind (fun r2 => some (r2.1, r2.2))) else (if a1 = 1 then ((fX6_busiest n st).bind (fun r5 => some (r5.1, r5.2))) else (if a1 = 2 then ((fX6_mostFallsOfOne n st).bind (fun r8 => some (r8.1, r8.2))) else (if a1 = 3 then ((fX6_skeptic n st).bind (fun r11 => some (r11.1, r11.2))) else (if a1 = 4 then ((fX6_idle n st).bind (fun r14 => some (r14.1, r14.2))) else (some ((-1 : Int32), st))))))
set_option maxHeartbeats 4000000 in
theorem zX11_who (l : Launch) (X : WX) (n : Nat) (st : St) (a1 : Int32) (R : Int32 × St) (hf : fX11_who n st a1 = some R) : CtI l yX11_who cX11_who 2 .int ({ frames := 7, cells := 0, slots := 0, locals := 172 }) EC 65 X [.ref (xq X 0), .int a1] st R.1 R.2 := by
  refine ct_in (own := RX11) (by decide +kernel) rfl (Nat.le_of_ble_eq_true rfl) (fun p e s m below meth c C hr hw ls hl => ?_)
  obtain ⟨hx, hb, hml, hown, hts⟩ := id C.1
  have hl : lv_has ls 2 [(0, .ref (xq X 0)), (1, .int a1)] := hl
  unfold fX11_who at hf
  refine lv_iload_n hx hb dX11_who_0 rfl (lv_at hl 1 rfl) ?_
  by_cases c1 : a1 = 0
  · replace hf := ite_t hf c1
    refine lv_tableIn (tgt := 36) hx hb dX11_who_1 (by rw [c1]; decide) (by rw [c1]; decide) (by rw [c1]; rfl) (by decide) ?_
    refine lv_aload_n hx hb dX11_who_36 rfl (lv_at hl 0 rfl) ?_
    refine w_get (T := TX11) C hw (by decide) 3 kf_X11_35 (EC_0 X _ _) rfl inA11 (by decide) rfl dX11_who_37 ?_
    obtain ⟨r2, k3, hf⟩ := bd_some hf
    refine w_goI hw (w_runV (rest := []) C hw (zX6_quarrel _ _ n st r2 k3) (by decide) (EC_24 X _ _) rfl km_X11_246 ki_yX6_quarrel kv_X6_quarrel kz_X6 kc_X6_quarrel rfl ok_yX6_quarrel ⟨Nat.le_of_ble_eq_true rfl, Nat.le_of_ble_eq_true rfl⟩ rfl rfl rfl rfl hl.1 (Nat.le_of_ble_eq_true rfl) dX11_who_40 ⟨Nat.zero_le _, Nat.zero_le _⟩) (fun H locs hw => ?_)
    exact w_iret C hw hr (so2 hf).1 (so2 hf).2 dX11_who_43
  · replace hf := ite_f hf c1
    by_cases c4 : a1 = 1
    · replace hf := ite_t hf c4
      refine lv_tableIn (tgt := 44) hx hb dX11_who_1 (by rw [c4]; decide) (by rw [c4]; decide) (by rw [c4]; rfl) (by decide) ?_
      refine lv_aload_n hx hb dX11_who_44 rfl (lv_at hl 0 rfl) ?_
      refine w_get (T := TX11) C hw (by decide) 3 kf_X11_35 (EC_0 X _ _) rfl inA11 (by decide) rfl dX11_who_45 ?_
      obtain ⟨r5, k6, hf⟩ := bd_some hf
      refine w_goI hw (w_runV (rest := []) C hw (zX6_busiest _ _ n st r5 k6) (by decide) (EC_24 X _ _) rfl km_X11_250 ki_yX6_busiest kv_X6_busiest kz_X6 kc_X6_busiest rfl ok_yX6_busiest ⟨Nat.le_of_ble_eq_true rfl, Nat.le_of_ble_eq_true rfl⟩ rfl rfl rfl rfl hl.1 (Nat.le_of_ble_eq_true rfl) dX11_who_48 ⟨Nat.zero_le _, Nat.zero_le _⟩) (fun H locs hw => ?_)
      exact w_iret C hw hr (so2 hf).1 (so2 hf).2 dX11_who_51
    · replace hf := ite_f hf c4
      by_cases c7 : a1 = 2
      · replace hf := ite_t hf c7
        refine lv_tableIn (tgt := 52) hx hb dX11_who_1 (by rw [c7]; decide) (by rw [c7]; decide) (by rw [c7]; rfl) (by decide) ?_
        refine lv_aload_n hx hb dX11_who_52 rfl (lv_at hl 0 rfl) ?_
        refine w_get (T := TX11) C hw (by decide) 3 kf_X11_35 (EC_0 X _ _) rfl inA11 (by decide) rfl dX11_who_53 ?_
        obtain ⟨r8, k9, hf⟩ := bd_some hf
        refine w_goI hw (w_runV (rest := []) C hw (zX6_mostFallsOfOne _ _ n st r8 k9) (by decide) (EC_24 X _ _) rfl km_X11_253 ki_yX6_mostFallsOfOne kv_X6_mostFallsOfOne kz_X6 kc_X6_mostFallsOfOne rfl ok_yX6_mostFallsOfOne ⟨Nat.le_of_ble_eq_true rfl, Nat.le_of_ble_eq_true rfl⟩ rfl rfl rfl rfl hl.1 (Nat.le_of_ble_eq_true rfl) dX11_who_56 ⟨Nat.zero_le _, Nat.zero_le _⟩) (fun H locs hw => ?_)
        exact w_iret C hw hr (so2 hf).1 (so2 hf).2 dX11_who_59
      · replace hf := ite_f hf c7
        by_cases c10 : a1 = 3
        · replace hf := ite_t hf c10
          refine lv_tableIn (tgt := 60) hx hb dX11_who_1 (by rw [c10]; decide) (by rw [c10]; decide) (by rw [c10]; rfl) (by decide) ?_
          refine lv_aload_n hx hb dX11_who_60 rfl (lv_at hl 0 rfl) ?_
          refine w_get (T := TX11) C hw (by decide) 3 kf_X11_35 (EC_0 X _ _) rfl inA11 (by decide) rfl dX11_who_61 ?_
          obtain ⟨r11, k12, hf⟩ := bd_some hf
          refine w_goI hw (w_runV (rest := []) C hw (zX6_skeptic _ _ n st r11 k12) (by decide) (EC_24 X _ _) rfl km_X11_256 ki_yX6_skeptic kv_X6_skeptic kz_X6 kc_X6_skeptic rfl ok_yX6_skeptic ⟨Nat.le_of_ble_eq_true rfl, Nat.le_of_ble_eq_true rfl⟩ rfl rfl rfl rfl hl.1 (Nat.le_of_ble_eq_true rfl) dX11_who_64 ⟨Nat.zero_le _, Nat.zero_le _⟩) (fun H locs hw => ?_)
          exact w_iret C hw hr (so2 hf).1 (so2 hf).2 dX11_who_67
        · replace hf := ite_f hf c10
          by_cases c13 : a1 = 4
          · replace hf := ite_t hf c13
            refine lv_tableIn (tgt := 68) hx hb dX11_who_1 (by rw [c13]; decide) (by rw [c13]; decide) (by rw [c13]; rfl) (by decide) ?_
            refine lv_aload_n hx hb dX11_who_68 rfl (lv_at hl 0 rfl) ?_
            refine w_get (T := TX11) C hw (by decide) 3 kf_X11_35 (EC_0 X _ _) rfl inA11 (by decide) rfl dX11_who_69 ?_
            obtain ⟨r14, k15, hf⟩ := bd_some hf
            refine w_goI hw (w_runV (rest := []) C hw (zX6_idle _ _ n st r14 k15) (by decide) (EC_24 X _ _) rfl km_X11_259 ki_yX6_idle kv_X6_idle kz_X6 kc_X6_idle rfl ok_yX6_idle ⟨Nat.le_of_ble_eq_true rfl, Nat.le_of_ble_eq_true rfl⟩ rfl rfl rfl rfl hl.1 (Nat.le_of_ble_eq_true rfl) dX11_who_72 ⟨Nat.zero_le _, Nat.zero_le _⟩) (fun H locs hw => ?_)
            exact w_iret C hw hr (so2 hf).1 (so2 hf).2 dX11_who_75
          · replace hf := ite_f hf c13
            refine lv_tableOut (tgt := 76) hx hb dX11_who_1 (by have q0 := ne_toInt (a := 0) c1 (by decide); have q1 := ne_toInt (a := 1) c4 (by decide); have q2 := ne_toInt (a := 2) c7 (by decide); have q3 := ne_toInt (a := 3) c10 (by decide); have q4 := ne_toInt (a := 4) c13 (by decide); omega) (by decide) ?_
            refine lv_iconst (v := -1) hx hb dX11_who_76 (by decide) ?_
            exact w_iret C hw hr (so2 hf).1 (so2 hf).2 dX11_who_77
theorem dX11_isField_0 : decode cX11_isField 0 = .ok (.iload_n 1, 1) := by decide +kernel
theorem dX11_isField_1 : decode cX11_isField 1 = .ok (.iconst 0, 1) := by decide +kernel
theorem dX11_isField_2 : decode cX11_isField 2 = .ok (.aload_n 0, 1) := by decide +kernel
theorem dX11_isField_3 : decode cX11_isField 3 = .ok (.getfield 10, 3) := by decide +kernel
theorem dX11_isField_6 : decode cX11_isField 6 = .ok (.getfield 110, 3) := by decide +kernel
theorem dX11_isField_9 : decode cX11_isField 9 = .ok (.iconst 1, 1) := by decide +kernel
theorem dX11_isField_10 : decode cX11_isField 10 = .ok (.isub, 1) := by decide +kernel
theorem dX11_isField_11 : decode cX11_isField 11 = .ok (.invokestatic 117, 3) := by decide +kernel
theorem dX11_isField_14 : decode cX11_isField 14 = .ok (.ireturn, 1) := by decide +kernel
theorem ok_yX11_isField : yOk yX11_isField 1 := ⟨by decide +kernel, by decide +kernel, by decide +kernel⟩
def fX11_isField (st : St) (a1 : Int32) : Bool := (fX11_isWithin a1 (0 : Int32) ((gI st 1 1) - (1 : Int32)))
set_option maxHeartbeats 4000000 in
theorem zX11_isField (l : Launch) (X : WX) (st : St) (a1 : Int32) : CtI l yX11_isField cX11_isField 2 .boolean ({ frames := 1, cells := 0, slots := 0, locals := 22 }) EC 65 X [.ref (xq X 0), .int a1] st (bI (fX11_isField st a1)) st := by
  generalize hf : fX11_isField st a1 = R
  refine ct_in (own := RX11) (by decide +kernel) rfl (Nat.le_of_ble_eq_true rfl) (fun p e s m below meth c C hr hw ls hl => ?_)
  obtain ⟨hx, hb, hml, hown, hts⟩ := id C.1
  have hl : lv_has ls 2 [(0, .ref (xq X 0)), (1, .int a1)] := hl
  unfold fX11_isField at hf
  refine lv_iload_n hx hb dX11_isField_0 rfl (lv_at hl 1 rfl) ?_
  refine lv_iconst (v := 0) hx hb dX11_isField_1 (by decide) ?_
  refine lv_aload_n hx hb dX11_isField_2 rfl (lv_at hl 0 rfl) ?_
  refine w_get (T := TX11) C hw (by decide) 0 kf_X11_10 (EC_0 X _ _) rfl inA11 (by decide) rfl dX11_isField_3 ?_
  refine w_get (T := TX3) C hw (by decide) 1 kf_X11_110 (EC_1 X _ _) rfl inA3 (by decide) rfl dX11_isField_6 ?_
  refine lv_iconst (v := 1) hx hb dX11_isField_9 (by decide) ?_
  refine lv_isub hx hb dX11_isField_10 ?_
  refine w_goI hw (w_runS (rest := []) C hw (zX11_isWithin _ _ st a1 (0 : Int32) ((gI st 1 1) - (1 : Int32))) km_X11_117 kt_yX11_isWithin kz_X11 kc_X11_isWithin ok_yX11_isWithin ⟨Nat.le_of_ble_eq_true rfl, Nat.le_of_ble_eq_true rfl⟩ rfl rfl rfl rfl hl.1 (Nat.le_of_ble_eq_true rfl) dX11_isField_11 ⟨Nat.zero_le _, Nat.zero_le _⟩) (fun H locs hw => ?_)
  exact w_zret (b := (fX11_isWithin a1 (0 : Int32) ((gI st 1 1) - (1 : Int32)))) C hw hr rfl hf rfl dX11_isField_14
theorem dX11_hedge_0 : decode cX11_hedge 0 = .ok (.aload_n 0, 1) := by decide +kernel
theorem dX11_hedge_1 : decode cX11_hedge 1 = .ok (.iload_n 1, 1) := by decide +kernel
theorem dX11_hedge_2 : decode cX11_hedge 2 = .ok (.invokevirtual 262, 3) := by decide +kernel
theorem dX11_hedge_5 : decode cX11_hedge 5 = .ok (.ifCond .eq 21, 3) := by decide +kernel
theorem dX11_hedge_8 : decode cX11_hedge 8 = .ok (.iload_n 2, 1) := by decide +kernel
theorem dX11_hedge_9 : decode cX11_hedge 9 = .ok (.invokestatic 107, 3) := by decide +kernel
theorem dX11_hedge_12 : decode cX11_hedge 12 = .ok (.ifCond .eq 14, 3) := by decide +kernel
theorem dX11_hedge_15 : decode cX11_hedge 15 = .ok (.aload_n 0, 1) := by decide +kernel
theorem dX11_hedge_16 : decode cX11_hedge 16 = .ok (.getfield 10, 3) := by decide +kernel
theorem dX11_hedge_19 : decode cX11_hedge 19 = .ok (.iload_n 1, 1) := by decide +kernel
theorem dX11_hedge_20 : decode cX11_hedge 20 = .ok (.invokevirtual 212, 3) := by decide +kernel
theorem dX11_hedge_23 : decode cX11_hedge 23 = .ok (.ifCond .ge 6, 3) := by decide +kernel
theorem dX11_hedge_26 : decode cX11_hedge 26 = .ok (.ldc 170, 2) := by decide +kernel
theorem dX11_hedge_28 : decode cX11_hedge 28 = .ok (.ireturn, 1) := by decide +kernel
theorem dX11_hedge_29 : decode cX11_hedge 29 = .ok (.aload_n 0, 1) := by decide +kernel
theorem dX11_hedge_30 : decode cX11_hedge 30 = .ok (.getfield 44, 3) := by decide +kernel
theorem dX11_hedge_33 : decode cX11_hedge 33 = .ok (.iload_n 1, 1) := by decide +kernel
theorem dX11_hedge_34 : decode cX11_hedge 34 = .ok (.iload_n 2, 1) := by decide +kernel
theorem dX11_hedge_35 : decode cX11_hedge 35 = .ok (.bipush 100, 2) := by decide +kernel
theorem dX11_hedge_37 : decode cX11_hedge 37 = .ok (.idiv, 1) := by decide +kernel
theorem dX11_hedge_38 : decode cX11_hedge 38 = .ok (.iload_n 2, 1) := by decide +kernel
theorem dX11_hedge_39 : decode cX11_hedge 39 = .ok (.bipush 100, 2) := by decide +kernel
theorem dX11_hedge_41 : decode cX11_hedge 41 = .ok (.irem, 1) := by decide +kernel
theorem dX11_hedge_42 : decode cX11_hedge 42 = .ok (.invokevirtual 265, 3) := by decide +kernel
theorem dX11_hedge_45 : decode cX11_hedge 45 = .ok (.ireturn, 1) := by decide +kernel
theorem ok_yX11_hedge : yOk yX11_hedge 2 := ⟨by decide +kernel, by decide +kernel, by decide +kernel⟩
def fX11_hedge (n : Nat) (st : St) (a1 : Int32) (a2 : Int32) : Option (Int32 × St) := if bI (fX11_isField st a1) = 0 then (some ((-2000000000 : Int32), st)) else (if bI (fX11_isSize a2) = 0 then (some ((-2000000000 : Int32), st)) else ((fX3_ownerOf st a1).bind (fun r3 => if 0 ≤ r3 then ((fX9_hedgeMoved n st a1 (a2 / (100 : Int32)) (rmI a2 (100 : Int32))).bind (fun r6 => some (r6.1, r6.2))) else (some ((-2000000000 : Int32), st)))))
set_option maxHeartbeats 4000000 in
theorem zX11_hedge (l : Launch) (X : WX) (n : Nat) (st : St) (a1 : Int32) (a2 : Int32) (R : Int32 × St) (hf : fX11_hedge n st a1 a2 = some R) : CtI l yX11_hedge cX11_hedge 3 .int ({ frames := 7, cells := 0, slots := 0, locals := 180 }) EC 65 X [.ref (xq X 0), .int a1, .int a2] st R.1 R.2 := by
  refine ct_in (own := RX11) (by decide +kernel) rfl (Nat.le_of_ble_eq_true rfl) (fun p e s m below meth c C hr hw ls hl => ?_)
  obtain ⟨hx, hb, hml, hown, hts⟩ := id C.1
  have hl : lv_has ls 3 [(0, .ref (xq X 0)), (1, .int a1), (2, .int a2)] := hl
  unfold fX11_hedge at hf
  refine lv_aload_n hx hb dX11_hedge_0 rfl (lv_at hl 0 rfl) ?_
  refine lv_iload_n hx hb dX11_hedge_1 rfl (lv_at hl 1 rfl) ?_
  refine w_goI hw (w_runV (rest := []) C hw (zX11_isField _ _ st a1) (by decide) (EC_0 X _ _) rfl km_X11_262 ki_yX11_isField kv_X11_isField kz_X11 kc_X11_isField rfl ok_yX11_isField ⟨Nat.le_of_ble_eq_true rfl, Nat.le_of_ble_eq_true rfl⟩ rfl rfl rfl rfl hl.1 (Nat.le_of_ble_eq_true rfl) dX11_hedge_2 ⟨Nat.zero_le _, Nat.zero_le _⟩) (fun H locs hw => ?_)
  refine lv_if_eq (tgt := 26) hx hb dX11_hedge_5 (by decide) (fun c1 => ?_) (fun c1 => ?_)
  · replace hf := ite_t hf c1
    refine lv_ldc (v := -2000000000) hx hb hown (hts _ kn_X11_170) dX11_hedge_26 ?_
    exact w_iret C hw hr (so2 hf).1 (so2 hf).2 dX11_hedge_28
  · replace hf := ite_f hf c1
    refine lv_iload_n hx hb dX11_hedge_8 rfl (lv_at hl 2 rfl) ?_
    refine w_goI hw (w_runS (rest := []) C hw (zX11_isSize _ _ st a2) km_X11_107 kt_yX11_isSize kz_X11 kc_X11_isSize ok_yX11_isSize ⟨Nat.le_of_ble_eq_true rfl, Nat.le_of_ble_eq_true rfl⟩ rfl rfl rfl rfl hl.1 (Nat.le_of_ble_eq_true rfl) dX11_hedge_9 ⟨Nat.zero_le _, Nat.zero_le _⟩) (fun H locs hw => ?_)
    refine lv_if_eq (tgt := 26) hx hb dX11_hedge_12 (by decide) (fun c2 => ?_) (fun c2 => ?_)
    · replace hf := ite_t hf c2
      refine lv_ldc (v := -2000000000) hx hb hown (hts _ kn_X11_170) dX11_hedge_26 ?_
      exact w_iret C hw hr (so2 hf).1 (so2 hf).2 dX11_hedge_28
    · replace hf := ite_f hf c2
      refine lv_aload_n hx hb dX11_hedge_15 rfl (lv_at hl 0 rfl) ?_
      refine w_get (T := TX11) C hw (by decide) 0 kf_X11_10 (EC_0 X _ _) rfl inA11 (by decide) rfl dX11_hedge_16 ?_
      refine lv_iload_n hx hb dX11_hedge_19 rfl (lv_at hl 1 rfl) ?_
      obtain ⟨r3, k4, hf⟩ := bd_some hf
      refine w_goI hw (w_runV (rest := []) C hw (zX3_ownerOf _ _ st a1 r3 k4) (by decide) (EC_1 X _ _) rfl km_X11_212 ki_yX3_ownerOf kv_X3_ownerOf kz_X3 kc_X3_ownerOf rfl ok_yX3_ownerOf ⟨Nat.le_of_ble_eq_true rfl, Nat.le_of_ble_eq_true rfl⟩ rfl rfl rfl rfl hl.1 (Nat.le_of_ble_eq_true rfl) dX11_hedge_20 ⟨Nat.zero_le _, Nat.zero_le _⟩) (fun H locs hw => ?_)
      refine lv_if_ge (tgt := 29) hx hb dX11_hedge_23 (by decide) (fun c5 => ?_) (fun c5 => ?_)
      · replace hf := ite_t hf c5
        refine lv_aload_n hx hb dX11_hedge_29 rfl (lv_at hl 0 rfl) ?_
        refine w_get (T := TX11) C hw (by decide) 4 kf_X11_44 (EC_0 X _ _) rfl inA11 (by decide) rfl dX11_hedge_30 ?_
        refine lv_iload_n hx hb dX11_hedge_33 rfl (lv_at hl 1 rfl) ?_
        refine lv_iload_n hx hb dX11_hedge_34 rfl (lv_at hl 2 rfl) ?_
        refine lv_bipush (v := 100) hx hb dX11_hedge_35 (by decide) ?_
        refine lv_idiv hx hb dX11_hedge_37 (by decide) ?_
        refine lv_iload_n hx hb dX11_hedge_38 rfl (lv_at hl 2 rfl) ?_
        refine lv_bipush (v := 100) hx hb dX11_hedge_39 (by decide) ?_
        refine w_irem C (by decide) dX11_hedge_41 ?_
        obtain ⟨r6, k7, hf⟩ := bd_some hf
        refine w_goI hw (w_runV (rest := []) C hw (zX9_hedgeMoved _ _ n st a1 (a2 / (100 : Int32)) (rmI a2 (100 : Int32)) r6 k7) (by decide) (EC_27 X _ _) rfl km_X11_265 ki_yX9_hedgeMoved kv_X9_hedgeMoved kz_X9 kc_X9_hedgeMoved rfl ok_yX9_hedgeMoved ⟨Nat.le_of_ble_eq_true rfl, Nat.le_of_ble_eq_true rfl⟩ rfl rfl rfl rfl hl.1 (Nat.le_of_ble_eq_true rfl) dX11_hedge_42 ⟨Nat.zero_le _, Nat.zero_le _⟩) (fun H locs hw => ?_)
        exact w_iret C hw hr (so2 hf).1 (so2 hf).2 dX11_hedge_45
      · replace hf := ite_f hf c5
        refine lv_ldc (v := -2000000000) hx hb hown (hts _ kn_X11_170) dX11_hedge_26 ?_
        exact w_iret C hw hr (so2 hf).1 (so2 hf).2 dX11_hedge_28
theorem dX11_later_0 : decode cX11_later 0 = .ok (.aload_n 0, 1) := by decide +kernel
theorem dX11_later_1 : decode cX11_later 1 = .ok (.iload_n 1, 1) := by decide +kernel
theorem dX11_later_2 : decode cX11_later 2 = .ok (.invokevirtual 200, 3) := by decide +kernel
theorem dX11_later_5 : decode cX11_later 5 = .ok (.ifCond .eq 21, 3) := by decide +kernel
theorem dX11_later_8 : decode cX11_later 8 = .ok (.aload_n 0, 1) := by decide +kernel
theorem dX11_later_9 : decode cX11_later 9 = .ok (.getfield 44, 3) := by decide +kernel
theorem dX11_later_12 : decode cX11_later 12 = .ok (.iload_n 1, 1) := by decide +kernel
theorem dX11_later_13 : decode cX11_later 13 = .ok (.bipush 100, 2) := by decide +kernel
theorem dX11_later_15 : decode cX11_later 15 = .ok (.idiv, 1) := by decide +kernel
theorem dX11_later_16 : decode cX11_later 16 = .ok (.iload_n 1, 1) := by decide +kernel
theorem dX11_later_17 : decode cX11_later 17 = .ok (.bipush 100, 2) := by decide +kernel
theorem dX11_later_19 : decode cX11_later 19 = .ok (.irem, 1) := by decide +kernel
theorem dX11_later_20 : decode cX11_later 20 = .ok (.invokevirtual 269, 3) := by decide +kernel
theorem dX11_later_23 : decode cX11_later 23 = .ok (.goto 4, 3) := by decide +kernel
theorem dX11_later_26 : decode cX11_later 26 = .ok (.iconst (-1), 1) := by decide +kernel
theorem dX11_later_27 : decode cX11_later 27 = .ok (.ireturn, 1) := by decide +kernel
theorem ok_yX11_later : yOk yX11_later 1 := ⟨by decide +kernel, by decide +kernel, by decide +kernel⟩
def fX11_later (n : Nat) (st : St) (a1 : Int32) : Option (Int32 × St) := if bI (fX11_isFallAndCry st a1) = 0 then (some ((-1 : Int32), st)) else ((fX9_minutesLater n st (a1 / (100 : Int32)) (rmI a1 (100 : Int32))).bind (fun r2 => some (r2.1, r2.2)))
set_option maxHeartbeats 4000000 in
theorem zX11_later (l : Launch) (X : WX) (n : Nat) (st : St) (a1 : Int32) (R : Int32 × St) (hf : fX11_later n st a1 = some R) : CtI l yX11_later cX11_later 2 .int ({ frames := 5, cells := 0, slots := 0, locals := 130 }) EC 65 X [.ref (xq X 0), .int a1] st R.1 R.2 := by
  refine ct_in (own := RX11) (by decide +kernel) rfl (Nat.le_of_ble_eq_true rfl) (fun p e s m below meth c C hr hw ls hl => ?_)
  obtain ⟨hx, hb, hml, hown, hts⟩ := id C.1
  have hl : lv_has ls 2 [(0, .ref (xq X 0)), (1, .int a1)] := hl
  unfold fX11_later at hf
  refine lv_aload_n hx hb dX11_later_0 rfl (lv_at hl 0 rfl) ?_
  refine lv_iload_n hx hb dX11_later_1 rfl (lv_at hl 1 rfl) ?_
  refine w_goI hw (w_runV (rest := []) C hw (zX11_isFallAndCry _ _ st a1) (by decide) (EC_0 X _ _) rfl km_X11_200 ki_yX11_isFallAndCry kv_X11_isFallAndCry kz_X11 kc_X11_isFallAndCry rfl ok_yX11_isFallAndCry ⟨Nat.le_of_ble_eq_true rfl, Nat.le_of_ble_eq_true rfl⟩ rfl rfl rfl rfl hl.1 (Nat.le_of_ble_eq_true rfl) dX11_later_2 ⟨Nat.zero_le _, Nat.zero_le _⟩) (fun H locs hw => ?_)
  refine lv_if_eq (tgt := 26) hx hb dX11_later_5 (by decide) (fun c1 => ?_) (fun c1 => ?_)
  · replace hf := ite_t hf c1
    refine lv_iconst (v := -1) hx hb dX11_later_26 (by decide) ?_
    exact w_iret C hw hr (so2 hf).1 (so2 hf).2 dX11_later_27
  · replace hf := ite_f hf c1
    refine lv_aload_n hx hb dX11_later_8 rfl (lv_at hl 0 rfl) ?_
    refine w_get (T := TX11) C hw (by decide) 4 kf_X11_44 (EC_0 X _ _) rfl inA11 (by decide) rfl dX11_later_9 ?_
    refine lv_iload_n hx hb dX11_later_12 rfl (lv_at hl 1 rfl) ?_
    refine lv_bipush (v := 100) hx hb dX11_later_13 (by decide) ?_
    refine lv_idiv hx hb dX11_later_15 (by decide) ?_
    refine lv_iload_n hx hb dX11_later_16 rfl (lv_at hl 1 rfl) ?_
    refine lv_bipush (v := 100) hx hb dX11_later_17 (by decide) ?_
    refine w_irem C (by decide) dX11_later_19 ?_
    obtain ⟨r2, k3, hf⟩ := bd_some hf
    refine w_goI hw (w_runV (rest := []) C hw (zX9_minutesLater _ _ n st (a1 / (100 : Int32)) (rmI a1 (100 : Int32)) r2 k3) (by decide) (EC_27 X _ _) rfl km_X11_269 ki_yX9_minutesLater kv_X9_minutesLater kz_X9 kc_X9_minutesLater rfl ok_yX9_minutesLater ⟨Nat.le_of_ble_eq_true rfl, Nat.le_of_ble_eq_true rfl⟩ rfl rfl rfl rfl hl.1 (Nat.le_of_ble_eq_true rfl) dX11_later_20 ⟨Nat.zero_le _, Nat.zero_le _⟩) (fun H locs hw => ?_)
    refine lv_goto (tgt := 27) hx hb dX11_later_23 (by decide) ?_
    exact w_iret C hw hr (so2 hf).1 (so2 hf).2 dX11_later_27
theorem dX11_louder_0 : decode cX11_louder 0 = .ok (.aload_n 0, 1) := by decide +kernel
theorem dX11_louder_1 : decode cX11_louder 1 = .ok (.iload_n 1, 1) := by decide +kernel
theorem dX11_louder_2 : decode cX11_louder 2 = .ok (.invokevirtual 200, 3) := by decide +kernel
theorem dX11_louder_5 : decode cX11_louder 5 = .ok (.ifCond .eq 21, 3) := by decide +kernel
theorem dX11_louder_8 : decode cX11_louder 8 = .ok (.aload_n 0, 1) := by decide +kernel
theorem dX11_louder_9 : decode cX11_louder 9 = .ok (.getfield 44, 3) := by decide +kernel
theorem dX11_louder_12 : decode cX11_louder 12 = .ok (.iload_n 1, 1) := by decide +kernel
theorem dX11_louder_13 : decode cX11_louder 13 = .ok (.bipush 100, 2) := by decide +kernel
theorem dX11_louder_15 : decode cX11_louder 15 = .ok (.idiv, 1) := by decide +kernel
theorem dX11_louder_16 : decode cX11_louder 16 = .ok (.iload_n 1, 1) := by decide +kernel
theorem dX11_louder_17 : decode cX11_louder 17 = .ok (.bipush 100, 2) := by decide +kernel
theorem dX11_louder_19 : decode cX11_louder 19 = .ok (.irem, 1) := by decide +kernel
theorem dX11_louder_20 : decode cX11_louder 20 = .ok (.invokevirtual 272, 3) := by decide +kernel
theorem dX11_louder_23 : decode cX11_louder 23 = .ok (.goto 4, 3) := by decide +kernel
theorem dX11_louder_26 : decode cX11_louder 26 = .ok (.iconst (-1), 1) := by decide +kernel
theorem dX11_louder_27 : decode cX11_louder 27 = .ok (.ireturn, 1) := by decide +kernel
theorem ok_yX11_louder : yOk yX11_louder 1 := ⟨by decide +kernel, by decide +kernel, by decide +kernel⟩
def fX11_louder (n : Nat) (st : St) (a1 : Int32) : Option (Int32 × St) := if bI (fX11_isFallAndCry st a1) = 0 then (some ((-1 : Int32), st)) else ((fX9_leastLoud n st (a1 / (100 : Int32)) (rmI a1 (100 : Int32))).bind (fun r2 => some (r2.1, r2.2)))
set_option maxHeartbeats 4000000 in
theorem zX11_louder (l : Launch) (X : WX) (n : Nat) (st : St) (a1 : Int32) (R : Int32 × St) (hf : fX11_louder n st a1 = some R) : CtI l yX11_louder cX11_louder 2 .int ({ frames := 5, cells := 0, slots := 0, locals := 127 }) EC 65 X [.ref (xq X 0), .int a1] st R.1 R.2 := by
  refine ct_in (own := RX11) (by decide +kernel) rfl (Nat.le_of_ble_eq_true rfl) (fun p e s m below meth c C hr hw ls hl => ?_)
  obtain ⟨hx, hb, hml, hown, hts⟩ := id C.1
  have hl : lv_has ls 2 [(0, .ref (xq X 0)), (1, .int a1)] := hl
  unfold fX11_louder at hf
  refine lv_aload_n hx hb dX11_louder_0 rfl (lv_at hl 0 rfl) ?_
  refine lv_iload_n hx hb dX11_louder_1 rfl (lv_at hl 1 rfl) ?_
  refine w_goI hw (w_runV (rest := []) C hw (zX11_isFallAndCry _ _ st a1) (by decide) (EC_0 X _ _) rfl km_X11_200 ki_yX11_isFallAndCry kv_X11_isFallAndCry kz_X11 kc_X11_isFallAndCry rfl ok_yX11_isFallAndCry ⟨Nat.le_of_ble_eq_true rfl, Nat.le_of_ble_eq_true rfl⟩ rfl rfl rfl rfl hl.1 (Nat.le_of_ble_eq_true rfl) dX11_louder_2 ⟨Nat.zero_le _, Nat.zero_le _⟩) (fun H locs hw => ?_)
  refine lv_if_eq (tgt := 26) hx hb dX11_louder_5 (by decide) (fun c1 => ?_) (fun c1 => ?_)
  · replace hf := ite_t hf c1
    refine lv_iconst (v := -1) hx hb dX11_louder_26 (by decide) ?_
    exact w_iret C hw hr (so2 hf).1 (so2 hf).2 dX11_louder_27
  · replace hf := ite_f hf c1
    refine lv_aload_n hx hb dX11_louder_8 rfl (lv_at hl 0 rfl) ?_
    refine w_get (T := TX11) C hw (by decide) 4 kf_X11_44 (EC_0 X _ _) rfl inA11 (by decide) rfl dX11_louder_9 ?_
    refine lv_iload_n hx hb dX11_louder_12 rfl (lv_at hl 1 rfl) ?_
    refine lv_bipush (v := 100) hx hb dX11_louder_13 (by decide) ?_
    refine lv_idiv hx hb dX11_louder_15 (by decide) ?_
    refine lv_iload_n hx hb dX11_louder_16 rfl (lv_at hl 1 rfl) ?_
    refine lv_bipush (v := 100) hx hb dX11_louder_17 (by decide) ?_
    refine w_irem C (by decide) dX11_louder_19 ?_
    obtain ⟨r2, k3, hf⟩ := bd_some hf
    refine w_goI hw (w_runV (rest := []) C hw (zX9_leastLoud _ _ n st (a1 / (100 : Int32)) (rmI a1 (100 : Int32)) r2 k3) (by decide) (EC_27 X _ _) rfl km_X11_272 ki_yX9_leastLoud kv_X9_leastLoud kz_X9 kc_X9_leastLoud rfl ok_yX9_leastLoud ⟨Nat.le_of_ble_eq_true rfl, Nat.le_of_ble_eq_true rfl⟩ rfl rfl rfl rfl hl.1 (Nat.le_of_ble_eq_true rfl) dX11_louder_20 ⟨Nat.zero_le _, Nat.zero_le _⟩) (fun H locs hw => ?_)
    refine lv_goto (tgt := 27) hx hb dX11_louder_23 (by decide) ?_
    exact w_iret C hw hr (so2 hf).1 (so2 hf).2 dX11_louder_27
theorem dX11_bestCry_0 : decode cX11_bestCry 0 = .ok (.iload_n 1, 1) := by decide +kernel
theorem dX11_bestCry_1 : decode cX11_bestCry 1 = .ok (.iconst 0, 1) := by decide +kernel
theorem dX11_bestCry_2 : decode cX11_bestCry 2 = .ok (.aload_n 0, 1) := by decide +kernel
theorem dX11_bestCry_3 : decode cX11_bestCry 3 = .ok (.getfield 10, 3) := by decide +kernel
theorem dX11_bestCry_6 : decode cX11_bestCry 6 = .ok (.getfield 154, 3) := by decide +kernel
theorem dX11_bestCry_9 : decode cX11_bestCry 9 = .ok (.iconst 1, 1) := by decide +kernel
theorem dX11_bestCry_10 : decode cX11_bestCry 10 = .ok (.isub, 1) := by decide +kernel
theorem dX11_bestCry_11 : decode cX11_bestCry 11 = .ok (.invokestatic 117, 3) := by decide +kernel
theorem dX11_bestCry_14 : decode cX11_bestCry 14 = .ok (.ifCond .eq 12, 3) := by decide +kernel
theorem dX11_bestCry_17 : decode cX11_bestCry 17 = .ok (.iload_n 2, 1) := by decide +kernel
theorem dX11_bestCry_18 : decode cX11_bestCry 18 = .ok (.iconst 0, 1) := by decide +kernel
theorem dX11_bestCry_19 : decode cX11_bestCry 19 = .ok (.iconst 1, 1) := by decide +kernel
theorem dX11_bestCry_20 : decode cX11_bestCry 20 = .ok (.invokestatic 117, 3) := by decide +kernel
theorem dX11_bestCry_23 : decode cX11_bestCry 23 = .ok (.ifCond .ne 5, 3) := by decide +kernel
theorem dX11_bestCry_26 : decode cX11_bestCry 26 = .ok (.iconst (-1), 1) := by decide +kernel
theorem dX11_bestCry_27 : decode cX11_bestCry 27 = .ok (.ireturn, 1) := by decide +kernel
theorem dX11_bestCry_28 : decode cX11_bestCry 28 = .ok (.aload_n 0, 1) := by decide +kernel
theorem dX11_bestCry_29 : decode cX11_bestCry 29 = .ok (.getfield 44, 3) := by decide +kernel
theorem dX11_bestCry_32 : decode cX11_bestCry 32 = .ok (.iload_n 1, 1) := by decide +kernel
theorem dX11_bestCry_33 : decode cX11_bestCry 33 = .ok (.invokevirtual 275, 3) := by decide +kernel
theorem dX11_bestCry_36 : decode cX11_bestCry 36 = .ok (.iload_n 2, 1) := by decide +kernel
theorem dX11_bestCry_37 : decode cX11_bestCry 37 = .ok (.ifCond .ne 13, 3) := by decide +kernel
theorem dX11_bestCry_40 : decode cX11_bestCry 40 = .ok (.aload_n 0, 1) := by decide +kernel
theorem dX11_bestCry_41 : decode cX11_bestCry 41 = .ok (.getfield 44, 3) := by decide +kernel
theorem dX11_bestCry_44 : decode cX11_bestCry 44 = .ok (.getfield 279, 3) := by decide +kernel
theorem dX11_bestCry_47 : decode cX11_bestCry 47 = .ok (.goto 10, 3) := by decide +kernel
theorem dX11_bestCry_50 : decode cX11_bestCry 50 = .ok (.aload_n 0, 1) := by decide +kernel
theorem dX11_bestCry_51 : decode cX11_bestCry 51 = .ok (.getfield 44, 3) := by decide +kernel
theorem dX11_bestCry_54 : decode cX11_bestCry 54 = .ok (.getfield 282, 3) := by decide +kernel
theorem dX11_bestCry_57 : decode cX11_bestCry 57 = .ok (.ireturn, 1) := by decide +kernel
theorem ok_yX11_bestCry : yOk yX11_bestCry 2 := ⟨by decide +kernel, by decide +kernel, by decide +kernel⟩
def fX11_bestCry (n : Nat) (st : St) (a1 : Int32) (a2 : Int32) : Option (Int32 × St) := if bI (fX11_isWithin a1 (0 : Int32) ((gI st 1 3) - (1 : Int32))) = 0 then (some ((-1 : Int32), st)) else (if bI (fX11_isWithin a2 (0 : Int32) (1 : Int32)) = 0 then (some ((-1 : Int32), st)) else ((fX9_seekMinute n st a1).bind (fun r3 => if a2 = 0 then (some ((gI r3 27 0), r3)) else (some ((gI r3 27 1), r3)))))
set_option maxHeartbeats 4000000 in
theorem zX11_bestCry (l : Launch) (X : WX) (n : Nat) (st : St) (a1 : Int32) (a2 : Int32) (R : Int32 × St) (hf : fX11_bestCry n st a1 a2 = some R) : CtI l yX11_bestCry cX11_bestCry 3 .int ({ frames := 6, cells := 0, slots := 0, locals := 151 }) EC 65 X [.ref (xq X 0), .int a1, .int a2] st R.1 R.2 := by
  refine ct_in (own := RX11) (by decide +kernel) rfl (Nat.le_of_ble_eq_true rfl) (fun p e s m below meth c C hr hw ls hl => ?_)
  obtain ⟨hx, hb, hml, hown, hts⟩ := id C.1
  have hl : lv_has ls 3 [(0, .ref (xq X 0)), (1, .int a1), (2, .int a2)] := hl
  unfold fX11_bestCry at hf
  refine lv_iload_n hx hb dX11_bestCry_0 rfl (lv_at hl 1 rfl) ?_
  refine lv_iconst (v := 0) hx hb dX11_bestCry_1 (by decide) ?_
  refine lv_aload_n hx hb dX11_bestCry_2 rfl (lv_at hl 0 rfl) ?_
  refine w_get (T := TX11) C hw (by decide) 0 kf_X11_10 (EC_0 X _ _) rfl inA11 (by decide) rfl dX11_bestCry_3 ?_
  refine w_get (T := TX3) C hw (by decide) 3 kf_X11_154 (EC_1 X _ _) rfl inA3 (by decide) rfl dX11_bestCry_6 ?_
  refine lv_iconst (v := 1) hx hb dX11_bestCry_9 (by decide) ?_
  refine lv_isub hx hb dX11_bestCry_10 ?_
  refine w_goI hw (w_runS (rest := []) C hw (zX11_isWithin _ _ st a1 (0 : Int32) ((gI st 1 3) - (1 : Int32))) km_X11_117 kt_yX11_isWithin kz_X11 kc_X11_isWithin ok_yX11_isWithin ⟨Nat.le_of_ble_eq_true rfl, Nat.le_of_ble_eq_true rfl⟩ rfl rfl rfl rfl hl.1 (Nat.le_of_ble_eq_true rfl) dX11_bestCry_11 ⟨Nat.zero_le _, Nat.zero_le _⟩) (fun H locs hw => ?_)
  refine lv_if_eq (tgt := 26) hx hb dX11_bestCry_14 (by decide) (fun c1 => ?_) (fun c1 => ?_)
  · replace hf := ite_t hf c1
    refine lv_iconst (v := -1) hx hb dX11_bestCry_26 (by decide) ?_
    exact w_iret C hw hr (so2 hf).1 (so2 hf).2 dX11_bestCry_27
  · replace hf := ite_f hf c1
    refine lv_iload_n hx hb dX11_bestCry_17 rfl (lv_at hl 2 rfl) ?_
    refine lv_iconst (v := 0) hx hb dX11_bestCry_18 (by decide) ?_
    refine lv_iconst (v := 1) hx hb dX11_bestCry_19 (by decide) ?_
    refine w_goI hw (w_runS (rest := []) C hw (zX11_isWithin _ _ st a2 (0 : Int32) (1 : Int32)) km_X11_117 kt_yX11_isWithin kz_X11 kc_X11_isWithin ok_yX11_isWithin ⟨Nat.le_of_ble_eq_true rfl, Nat.le_of_ble_eq_true rfl⟩ rfl rfl rfl rfl hl.1 (Nat.le_of_ble_eq_true rfl) dX11_bestCry_20 ⟨Nat.zero_le _, Nat.zero_le _⟩) (fun H locs hw => ?_)
    refine lv_if_ne (tgt := 28) hx hb dX11_bestCry_23 (by decide) (fun c2 => ?_) (fun c2 => ?_)
    · replace hf := ite_f hf c2
      refine lv_aload_n hx hb dX11_bestCry_28 rfl (lv_at hl 0 rfl) ?_
      refine w_get (T := TX11) C hw (by decide) 4 kf_X11_44 (EC_0 X _ _) rfl inA11 (by decide) rfl dX11_bestCry_29 ?_
      refine lv_iload_n hx hb dX11_bestCry_32 rfl (lv_at hl 1 rfl) ?_
      obtain ⟨r3, k4, hf⟩ := bd_some hf
      refine w_goV hw (w_runV (rest := []) C hw (zX9_seekMinute _ _ n st a1 r3 k4) (by decide) (EC_27 X _ _) rfl km_X11_275 ki_yX9_seekMinute kv_X9_seekMinute kz_X9 kc_X9_seekMinute rfl ok_yX9_seekMinute ⟨Nat.le_of_ble_eq_true rfl, Nat.le_of_ble_eq_true rfl⟩ rfl rfl rfl rfl hl.1 (Nat.le_of_ble_eq_true rfl) dX11_bestCry_33 ⟨Nat.zero_le _, Nat.zero_le _⟩) (fun H locs hw => ?_)
      refine lv_iload_n hx hb dX11_bestCry_36 rfl (lv_at hl 2 rfl) ?_
      refine lv_if_ne (tgt := 50) hx hb dX11_bestCry_37 (by decide) (fun c5 => ?_) (fun c5 => ?_)
      · replace hf := ite_f hf c5
        refine lv_aload_n hx hb dX11_bestCry_50 rfl (lv_at hl 0 rfl) ?_
        refine w_get (T := TX11) C hw (by decide) 4 kf_X11_44 (EC_0 X _ _) rfl inA11 (by decide) rfl dX11_bestCry_51 ?_
        refine w_get (T := TX9) C hw (by decide) 1 kf_X11_282 (EC_27 X _ _) rfl inA9 (by decide) rfl dX11_bestCry_54 ?_
        exact w_iret C hw hr (so2 hf).1 (so2 hf).2 dX11_bestCry_57
      · replace hf := ite_t hf c5
        refine lv_aload_n hx hb dX11_bestCry_40 rfl (lv_at hl 0 rfl) ?_
        refine w_get (T := TX11) C hw (by decide) 4 kf_X11_44 (EC_0 X _ _) rfl inA11 (by decide) rfl dX11_bestCry_41 ?_
        refine w_get (T := TX9) C hw (by decide) 0 kf_X11_279 (EC_27 X _ _) rfl inA9 (by decide) rfl dX11_bestCry_44 ?_
        refine lv_goto (tgt := 57) hx hb dX11_bestCry_47 (by decide) ?_
        exact w_iret C hw hr (so2 hf).1 (so2 hf).2 dX11_bestCry_57
    · replace hf := ite_t hf c2
      refine lv_iconst (v := -1) hx hb dX11_bestCry_26 (by decide) ?_
      exact w_iret C hw hr (so2 hf).1 (so2 hf).2 dX11_bestCry_27
theorem dX11_buy_0 : decode cX11_buy 0 = .ok (.iload_n 1, 1) := by decide +kernel
theorem dX11_buy_1 : decode cX11_buy 1 = .ok (.invokestatic 151, 3) := by decide +kernel
theorem dX11_buy_4 : decode cX11_buy 4 = .ok (.ifCond .eq 23, 3) := by decide +kernel
theorem dX11_buy_7 : decode cX11_buy 7 = .ok (.iload_n 2, 1) := by decide +kernel
theorem dX11_buy_8 : decode cX11_buy 8 = .ok (.iconst 0, 1) := by decide +kernel
theorem dX11_buy_9 : decode cX11_buy 9 = .ok (.sipush 999, 3) := by decide +kernel
theorem dX11_buy_12 : decode cX11_buy 12 = .ok (.invokestatic 117, 3) := by decide +kernel
theorem dX11_buy_15 : decode cX11_buy 15 = .ok (.ifCond .eq 12, 3) := by decide +kernel
theorem dX11_buy_18 : decode cX11_buy 18 = .ok (.iload_n 3, 1) := by decide +kernel
theorem dX11_buy_19 : decode cX11_buy 19 = .ok (.iconst 0, 1) := by decide +kernel
theorem dX11_buy_20 : decode cX11_buy 20 = .ok (.iconst 1, 1) := by decide +kernel
theorem dX11_buy_21 : decode cX11_buy 21 = .ok (.invokestatic 117, 3) := by decide +kernel
theorem dX11_buy_24 : decode cX11_buy 24 = .ok (.ifCond .ne 6, 3) := by decide +kernel
theorem dX11_buy_27 : decode cX11_buy 27 = .ok (.ldc 170, 2) := by decide +kernel
theorem dX11_buy_29 : decode cX11_buy 29 = .ok (.ireturn, 1) := by decide +kernel
theorem dX11_buy_30 : decode cX11_buy 30 = .ok (.iload_n 3, 1) := by decide +kernel
theorem dX11_buy_31 : decode cX11_buy 31 = .ok (.iconst 1, 1) := by decide +kernel
theorem dX11_buy_32 : decode cX11_buy 32 = .ok (.if_icmp .ne 5, 3) := by decide +kernel
theorem dX11_buy_35 : decode cX11_buy 35 = .ok (.iconst 0, 1) := by decide +kernel
theorem dX11_buy_36 : decode cX11_buy 36 = .ok (.ireturn, 1) := by decide +kernel
theorem dX11_buy_37 : decode cX11_buy 37 = .ok (.aload_n 0, 1) := by decide +kernel
theorem dX11_buy_38 : decode cX11_buy 38 = .ok (.getfield 35, 3) := by decide +kernel
theorem dX11_buy_41 : decode cX11_buy 41 = .ok (.invokevirtual 231, 3) := by decide +kernel
theorem dX11_buy_44 : decode cX11_buy 44 = .ok (.aload_n 0, 1) := by decide +kernel
theorem dX11_buy_45 : decode cX11_buy 45 = .ok (.getfield 35, 3) := by decide +kernel
theorem dX11_buy_48 : decode cX11_buy 48 = .ok (.iload_n 1, 1) := by decide +kernel
theorem dX11_buy_49 : decode cX11_buy 49 = .ok (.invokevirtual 285, 3) := by decide +kernel
theorem dX11_buy_52 : decode cX11_buy 52 = .ok (.ireturn, 1) := by decide +kernel
theorem ok_yX11_buy : yOk yX11_buy 3 := ⟨by decide +kernel, by decide +kernel, by decide +kernel⟩
def fX11_buy (n : Nat) (st : St) (a1 : Int32) (a2 : Int32) (a3 : Int32) : Option (Int32 × St) := if bI (fX11_isPerson a1) = 0 then (some ((-2000000000 : Int32), st)) else (if bI (fX11_isWithin a2 (0 : Int32) (999 : Int32)) = 0 then (some ((-2000000000 : Int32), st)) else (if bI (fX11_isWithin a3 (0 : Int32) (1 : Int32)) = 0 then (some ((-2000000000 : Int32), st)) else (if a3 = (1 : Int32) then (some ((0 : Int32), st)) else ((fX6_reckonDebts n st).bind (fun r5 => (fX6_worthOf n r5 a1).bind (fun r7 => some (r7, r5)))))))
set_option maxHeartbeats 4000000 in
theorem zX11_buy (l : Launch) (X : WX) (n : Nat) (st : St) (a1 : Int32) (a2 : Int32) (a3 : Int32) (R : Int32 × St) (hf : fX11_buy n st a1 a2 a3 = some R) : CtI l yX11_buy cX11_buy 4 .int ({ frames := 6, cells := 0, slots := 0, locals := 151 }) EC 65 X [.ref (xq X 0), .int a1, .int a2, .int a3] st R.1 R.2 := by
  refine ct_in (own := RX11) (by decide +kernel) rfl (Nat.le_of_ble_eq_true rfl) (fun p e s m below meth c C hr hw ls hl => ?_)
  obtain ⟨hx, hb, hml, hown, hts⟩ := id C.1
  have hl : lv_has ls 4 [(0, .ref (xq X 0)), (1, .int a1), (2, .int a2), (3, .int a3)] := hl
  unfold fX11_buy at hf
  refine lv_iload_n hx hb dX11_buy_0 rfl (lv_at hl 1 rfl) ?_
  refine w_goI hw (w_runS (rest := []) C hw (zX11_isPerson _ _ st a1) km_X11_151 kt_yX11_isPerson kz_X11 kc_X11_isPerson ok_yX11_isPerson ⟨Nat.le_of_ble_eq_true rfl, Nat.le_of_ble_eq_true rfl⟩ rfl rfl rfl rfl hl.1 (Nat.le_of_ble_eq_true rfl) dX11_buy_1 ⟨Nat.zero_le _, Nat.zero_le _⟩) (fun H locs hw => ?_)
  refine lv_if_eq (tgt := 27) hx hb dX11_buy_4 (by decide) (fun c1 => ?_) (fun c1 => ?_)
  · replace hf := ite_t hf c1
    refine lv_ldc (v := -2000000000) hx hb hown (hts _ kn_X11_170) dX11_buy_27 ?_
    exact w_iret C hw hr (so2 hf).1 (so2 hf).2 dX11_buy_29
  · replace hf := ite_f hf c1
    refine lv_iload_n hx hb dX11_buy_7 rfl (lv_at hl 2 rfl) ?_
    refine lv_iconst (v := 0) hx hb dX11_buy_8 (by decide) ?_
    refine lv_sipush (v := 999) hx hb dX11_buy_9 (by decide) ?_
    refine w_goI hw (w_runS (rest := []) C hw (zX11_isWithin _ _ st a2 (0 : Int32) (999 : Int32)) km_X11_117 kt_yX11_isWithin kz_X11 kc_X11_isWithin ok_yX11_isWithin ⟨Nat.le_of_ble_eq_true rfl, Nat.le_of_ble_eq_true rfl⟩ rfl rfl rfl rfl hl.1 (Nat.le_of_ble_eq_true rfl) dX11_buy_12 ⟨Nat.zero_le _, Nat.zero_le _⟩) (fun H locs hw => ?_)
    refine lv_if_eq (tgt := 27) hx hb dX11_buy_15 (by decide) (fun c2 => ?_) (fun c2 => ?_)
    · replace hf := ite_t hf c2
      refine lv_ldc (v := -2000000000) hx hb hown (hts _ kn_X11_170) dX11_buy_27 ?_
      exact w_iret C hw hr (so2 hf).1 (so2 hf).2 dX11_buy_29
    · replace hf := ite_f hf c2
      refine lv_iload_n hx hb dX11_buy_18 rfl (lv_at hl 3 rfl) ?_
      refine lv_iconst (v := 0) hx hb dX11_buy_19 (by decide) ?_
      refine lv_iconst (v := 1) hx hb dX11_buy_20 (by decide) ?_
      refine w_goI hw (w_runS (rest := []) C hw (zX11_isWithin _ _ st a3 (0 : Int32) (1 : Int32)) km_X11_117 kt_yX11_isWithin kz_X11 kc_X11_isWithin ok_yX11_isWithin ⟨Nat.le_of_ble_eq_true rfl, Nat.le_of_ble_eq_true rfl⟩ rfl rfl rfl rfl hl.1 (Nat.le_of_ble_eq_true rfl) dX11_buy_21 ⟨Nat.zero_le _, Nat.zero_le _⟩) (fun H locs hw => ?_)
      refine lv_if_ne (tgt := 30) hx hb dX11_buy_24 (by decide) (fun c3 => ?_) (fun c3 => ?_)
      · replace hf := ite_f hf c3
        refine lv_iload_n hx hb dX11_buy_30 rfl (lv_at hl 3 rfl) ?_
        refine lv_iconst (v := 1) hx hb dX11_buy_31 (by decide) ?_
        refine lv_icmp_ne (tgt := 37) hx hb dX11_buy_32 (by decide) (fun c4 => ?_) (fun c4 => ?_)
        · replace hf := ite_f hf c4
          refine lv_aload_n hx hb dX11_buy_37 rfl (lv_at hl 0 rfl) ?_
          refine w_get (T := TX11) C hw (by decide) 3 kf_X11_35 (EC_0 X _ _) rfl inA11 (by decide) rfl dX11_buy_38 ?_
          obtain ⟨r5, k6, hf⟩ := bd_some hf
          refine w_goV hw (w_runV (rest := []) C hw (zX6_reckonDebts _ _ n st r5 k6) (by decide) (EC_24 X _ _) rfl km_X11_231 ki_yX6_reckonDebts kv_X6_reckonDebts kz_X6 kc_X6_reckonDebts rfl ok_yX6_reckonDebts ⟨Nat.le_of_ble_eq_true rfl, Nat.le_of_ble_eq_true rfl⟩ rfl rfl rfl rfl hl.1 (Nat.le_of_ble_eq_true rfl) dX11_buy_41 ⟨Nat.zero_le _, Nat.zero_le _⟩) (fun H locs hw => ?_)
          refine lv_aload_n hx hb dX11_buy_44 rfl (lv_at hl 0 rfl) ?_
          refine w_get (T := TX11) C hw (by decide) 3 kf_X11_35 (EC_0 X _ _) rfl inA11 (by decide) rfl dX11_buy_45 ?_
          refine lv_iload_n hx hb dX11_buy_48 rfl (lv_at hl 1 rfl) ?_
          obtain ⟨r7, k8, hf⟩ := bd_some hf
          refine w_goI hw (w_runV (rest := []) C hw (zX6_worthOf _ _ n r5 a1 r7 k8) (by decide) (EC_24 X _ _) rfl km_X11_285 ki_yX6_worthOf kv_X6_worthOf kz_X6 kc_X6_worthOf rfl ok_yX6_worthOf ⟨Nat.le_of_ble_eq_true rfl, Nat.le_of_ble_eq_true rfl⟩ rfl rfl rfl rfl hl.1 (Nat.le_of_ble_eq_true rfl) dX11_buy_49 ⟨Nat.zero_le _, Nat.zero_le _⟩) (fun H locs hw => ?_)
          exact w_iret C hw hr (so2 hf).1 (so2 hf).2 dX11_buy_52
        · replace hf := ite_t hf c4
          refine lv_iconst (v := 0) hx hb dX11_buy_35 (by decide) ?_
          exact w_iret C hw hr (so2 hf).1 (so2 hf).2 dX11_buy_36
      · replace hf := ite_t hf c3
        refine lv_ldc (v := -2000000000) hx hb hown (hts _ kn_X11_170) dX11_buy_27 ?_
        exact w_iret C hw hr (so2 hf).1 (so2 hf).2 dX11_buy_29
theorem dX11_sellOff_0 : decode cX11_sellOff 0 = .ok (.iload_n 1, 1) := by decide +kernel
theorem dX11_sellOff_1 : decode cX11_sellOff 1 = .ok (.invokestatic 151, 3) := by decide +kernel
theorem dX11_sellOff_4 : decode cX11_sellOff 4 = .ok (.ifCond .eq 12, 3) := by decide +kernel
theorem dX11_sellOff_7 : decode cX11_sellOff 7 = .ok (.iload_n 2, 1) := by decide +kernel
theorem dX11_sellOff_8 : decode cX11_sellOff 8 = .ok (.iconst 0, 1) := by decide +kernel
theorem dX11_sellOff_9 : decode cX11_sellOff 9 = .ok (.iconst 1, 1) := by decide +kernel
theorem dX11_sellOff_10 : decode cX11_sellOff 10 = .ok (.invokestatic 117, 3) := by decide +kernel
theorem dX11_sellOff_13 : decode cX11_sellOff 13 = .ok (.ifCond .ne 5, 3) := by decide +kernel
theorem dX11_sellOff_16 : decode cX11_sellOff 16 = .ok (.iconst (-1), 1) := by decide +kernel
theorem dX11_sellOff_17 : decode cX11_sellOff 17 = .ok (.ireturn, 1) := by decide +kernel
theorem dX11_sellOff_18 : decode cX11_sellOff 18 = .ok (.aload_n 0, 1) := by decide +kernel
theorem dX11_sellOff_19 : decode cX11_sellOff 19 = .ok (.getfield 44, 3) := by decide +kernel
theorem dX11_sellOff_22 : decode cX11_sellOff 22 = .ok (.iload_n 1, 1) := by decide +kernel
theorem dX11_sellOff_23 : decode cX11_sellOff 23 = .ok (.invokevirtual 288, 3) := by decide +kernel
theorem dX11_sellOff_26 : decode cX11_sellOff 26 = .ok (.istore_n 3, 1) := by decide +kernel
theorem dX11_sellOff_27 : decode cX11_sellOff 27 = .ok (.iload_n 2, 1) := by decide +kernel
theorem dX11_sellOff_28 : decode cX11_sellOff 28 = .ok (.ifCond .ne 10, 3) := by decide +kernel
theorem dX11_sellOff_31 : decode cX11_sellOff 31 = .ok (.iload_n 3, 1) := by decide +kernel
theorem dX11_sellOff_32 : decode cX11_sellOff 32 = .ok (.invokestatic 291, 3) := by decide +kernel
theorem dX11_sellOff_35 : decode cX11_sellOff 35 = .ok (.goto 4, 3) := by decide +kernel
theorem dX11_sellOff_38 : decode cX11_sellOff 38 = .ok (.iload_n 3, 1) := by decide +kernel
theorem dX11_sellOff_39 : decode cX11_sellOff 39 = .ok (.ireturn, 1) := by decide +kernel
theorem ok_yX11_sellOff : yOk yX11_sellOff 2 := ⟨by decide +kernel, by decide +kernel, by decide +kernel⟩
def fX11_sellOff (n : Nat) (st : St) (a1 : Int32) (a2 : Int32) : Option (Int32 × St) := if bI (fX11_isPerson a1) = 0 then (some ((-1 : Int32), st)) else (if bI (fX11_isWithin a2 (0 : Int32) (1 : Int32)) = 0 then (some ((-1 : Int32), st)) else ((fX9_fieldsThatBurden n st a1).bind (fun r3 => if a2 = 0 then (some ((fJ6_bitCount_0f7a4 r3.1), r3.2)) else (some (r3.1, r3.2)))))
set_option maxHeartbeats 4000000 in
theorem zX11_sellOff (l : Launch) (X : WX) (n : Nat) (st : St) (a1 : Int32) (a2 : Int32) (R : Int32 × St) (hf : fX11_sellOff n st a1 a2 = some R) : CtI l yX11_sellOff cX11_sellOff 4 .int ({ frames := 6, cells := 0, slots := 0, locals := 154 }) EC 65 X [.ref (xq X 0), .int a1, .int a2] st R.1 R.2 := by
  refine ct_in (own := RX11) (by decide +kernel) rfl (Nat.le_of_ble_eq_true rfl) (fun p e s m below meth c C hr hw ls hl => ?_)
  obtain ⟨hx, hb, hml, hown, hts⟩ := id C.1
  have hl : lv_has ls 4 [(0, .ref (xq X 0)), (1, .int a1), (2, .int a2)] := hl
  unfold fX11_sellOff at hf
  refine lv_iload_n hx hb dX11_sellOff_0 rfl (lv_at hl 1 rfl) ?_
  refine w_goI hw (w_runS (rest := []) C hw (zX11_isPerson _ _ st a1) km_X11_151 kt_yX11_isPerson kz_X11 kc_X11_isPerson ok_yX11_isPerson ⟨Nat.le_of_ble_eq_true rfl, Nat.le_of_ble_eq_true rfl⟩ rfl rfl rfl rfl hl.1 (Nat.le_of_ble_eq_true rfl) dX11_sellOff_1 ⟨Nat.zero_le _, Nat.zero_le _⟩) (fun H locs hw => ?_)
  refine lv_if_eq (tgt := 16) hx hb dX11_sellOff_4 (by decide) (fun c1 => ?_) (fun c1 => ?_)
  · replace hf := ite_t hf c1
    refine lv_iconst (v := -1) hx hb dX11_sellOff_16 (by decide) ?_
    exact w_iret C hw hr (so2 hf).1 (so2 hf).2 dX11_sellOff_17
  · replace hf := ite_f hf c1
    refine lv_iload_n hx hb dX11_sellOff_7 rfl (lv_at hl 2 rfl) ?_
    refine lv_iconst (v := 0) hx hb dX11_sellOff_8 (by decide) ?_
    refine lv_iconst (v := 1) hx hb dX11_sellOff_9 (by decide) ?_
    refine w_goI hw (w_runS (rest := []) C hw (zX11_isWithin _ _ st a2 (0 : Int32) (1 : Int32)) km_X11_117 kt_yX11_isWithin kz_X11 kc_X11_isWithin ok_yX11_isWithin ⟨Nat.le_of_ble_eq_true rfl, Nat.le_of_ble_eq_true rfl⟩ rfl rfl rfl rfl hl.1 (Nat.le_of_ble_eq_true rfl) dX11_sellOff_10 ⟨Nat.zero_le _, Nat.zero_le _⟩) (fun H locs hw => ?_)
    refine lv_if_ne (tgt := 18) hx hb dX11_sellOff_13 (by decide) (fun c2 => ?_) (fun c2 => ?_)
    · replace hf := ite_f hf c2
      refine lv_aload_n hx hb dX11_sellOff_18 rfl (lv_at hl 0 rfl) ?_
      refine w_get (T := TX11) C hw (by decide) 4 kf_X11_44 (EC_0 X _ _) rfl inA11 (by decide) rfl dX11_sellOff_19 ?_
      refine lv_iload_n hx hb dX11_sellOff_22 rfl (lv_at hl 1 rfl) ?_
      obtain ⟨r3, k4, hf⟩ := bd_some hf
      refine w_goI hw (w_runV (rest := []) C hw (zX9_fieldsThatBurden _ _ n st a1 r3 k4) (by decide) (EC_27 X _ _) rfl km_X11_288 ki_yX9_fieldsThatBurden kv_X9_fieldsThatBurden kz_X9 kc_X9_fieldsThatBurden rfl ok_yX9_fieldsThatBurden ⟨Nat.le_of_ble_eq_true rfl, Nat.le_of_ble_eq_true rfl⟩ rfl rfl rfl rfl hl.1 (Nat.le_of_ble_eq_true rfl) dX11_sellOff_23 ⟨Nat.zero_le _, Nat.zero_le _⟩) (fun H locs hw => ?_)
      refine lv_istore_n (lv' := [(3, .int r3.1), (0, .ref (xq X 0)), (1, .int a1), (2, .int a2)]) hx hb dX11_sellOff_26 rfl hl (by decide) rfl (fun ls hl => ?_)
      refine lv_iload_n hx hb dX11_sellOff_27 rfl (lv_at hl 3 rfl) ?_
      refine lv_if_ne (tgt := 38) hx hb dX11_sellOff_28 (by decide) (fun c5 => ?_) (fun c5 => ?_)
      · replace hf := ite_f hf c5
        refine lv_iload_n hx hb dX11_sellOff_38 rfl (lv_at hl 0 rfl) ?_
        exact w_iret C hw hr (so2 hf).1 (so2 hf).2 dX11_sellOff_39
      · replace hf := ite_t hf c5
        refine lv_iload_n hx hb dX11_sellOff_31 rfl (lv_at hl 0 rfl) ?_
        refine w_goI hw (w_runS (rest := []) C hw (zJ6_bitCount_0f7a4 _ _ r3.2 r3.1) km_X11_291 kt_yJ6_bitCount_0f7a4 kz_J6 kc_J6_bitCount_0f7a4 ok_yJ6_bitCount_0f7a4 ⟨Nat.le_of_ble_eq_true rfl, Nat.le_of_ble_eq_true rfl⟩ rfl rfl rfl rfl hl.1 (Nat.le_of_ble_eq_true rfl) dX11_sellOff_32 ⟨Nat.zero_le _, Nat.zero_le _⟩) (fun H locs hw => ?_)
        refine lv_goto (tgt := 39) hx hb dX11_sellOff_35 (by decide) ?_
        exact w_iret C hw hr (so2 hf).1 (so2 hf).2 dX11_sellOff_39
    · replace hf := ite_t hf c2
      refine lv_iconst (v := -1) hx hb dX11_sellOff_16 (by decide) ?_
      exact w_iret C hw hr (so2 hf).1 (so2 hf).2 dX11_sellOff_17
theorem dX11_cleared_0 : decode cX11_cleared 0 = .ok (.iload_n 1, 1) := by decide +kernel
theorem dX11_cleared_1 : decode cX11_cleared 1 = .ok (.invokestatic 228, 3) := by decide +kernel
theorem dX11_cleared_4 : decode cX11_cleared 4 = .ok (.ifCond .eq 18, 3) := by decide +kernel
theorem dX11_cleared_7 : decode cX11_cleared 7 = .ok (.iload_n 1, 1) := by decide +kernel
theorem dX11_cleared_8 : decode cX11_cleared 8 = .ok (.bipush 10, 2) := by decide +kernel
theorem dX11_cleared_10 : decode cX11_cleared 10 = .ok (.idiv, 1) := by decide +kernel
theorem dX11_cleared_11 : decode cX11_cleared 11 = .ok (.iload_n 1, 1) := by decide +kernel
theorem dX11_cleared_12 : decode cX11_cleared 12 = .ok (.bipush 10, 2) := by decide +kernel
theorem dX11_cleared_14 : decode cX11_cleared 14 = .ok (.irem, 1) := by decide +kernel
theorem dX11_cleared_15 : decode cX11_cleared 15 = .ok (.if_icmp .eq 7, 3) := by decide +kernel
theorem dX11_cleared_18 : decode cX11_cleared 18 = .ok (.iconst 1, 1) := by decide +kernel
theorem dX11_cleared_19 : decode cX11_cleared 19 = .ok (.goto 4, 3) := by decide +kernel
theorem dX11_cleared_22 : decode cX11_cleared 22 = .ok (.iconst 0, 1) := by decide +kernel
theorem dX11_cleared_23 : decode cX11_cleared 23 = .ok (.istore_n 3, 1) := by decide +kernel
theorem dX11_cleared_24 : decode cX11_cleared 24 = .ok (.iload_n 2, 1) := by decide +kernel
theorem dX11_cleared_25 : decode cX11_cleared 25 = .ok (.ifCond .ne 10, 3) := by decide +kernel
theorem dX11_cleared_28 : decode cX11_cleared 28 = .ok (.iload_n 3, 1) := by decide +kernel
theorem dX11_cleared_29 : decode cX11_cleared 29 = .ok (.ifCond .ne 22, 3) := by decide +kernel
theorem dX11_cleared_32 : decode cX11_cleared 32 = .ok (.goto 16, 3) := by decide +kernel
theorem dX11_cleared_35 : decode cX11_cleared 35 = .ok (.iload_n 1, 1) := by decide +kernel
theorem dX11_cleared_36 : decode cX11_cleared 36 = .ok (.ifCond .ne 12, 3) := by decide +kernel
theorem dX11_cleared_39 : decode cX11_cleared 39 = .ok (.iload_n 2, 1) := by decide +kernel
theorem dX11_cleared_40 : decode cX11_cleared 40 = .ok (.iconst 1, 1) := by decide +kernel
theorem dX11_cleared_41 : decode cX11_cleared 41 = .ok (.iconst 2, 1) := by decide +kernel
theorem dX11_cleared_42 : decode cX11_cleared 42 = .ok (.invokestatic 117, 3) := by decide +kernel
theorem dX11_cleared_45 : decode cX11_cleared 45 = .ok (.ifCond .ne 6, 3) := by decide +kernel
theorem dX11_cleared_48 : decode cX11_cleared 48 = .ok (.ldc 170, 2) := by decide +kernel
theorem dX11_cleared_50 : decode cX11_cleared 50 = .ok (.ireturn, 1) := by decide +kernel
theorem dX11_cleared_51 : decode cX11_cleared 51 = .ok (.aload_n 0, 1) := by decide +kernel
theorem dX11_cleared_52 : decode cX11_cleared 52 = .ok (.getfield 35, 3) := by decide +kernel
theorem dX11_cleared_55 : decode cX11_cleared 55 = .ok (.invokevirtual 231, 3) := by decide +kernel
theorem dX11_cleared_58 : decode cX11_cleared 58 = .ok (.iload_n 2, 1) := by decide +kernel
theorem dX11_cleared_59 : decode cX11_cleared 59 = .ok (.ifCond .ne 23, 3) := by decide +kernel
theorem dX11_cleared_62 : decode cX11_cleared 62 = .ok (.aload_n 0, 1) := by decide +kernel
theorem dX11_cleared_63 : decode cX11_cleared 63 = .ok (.getfield 35, 3) := by decide +kernel
theorem dX11_cleared_66 : decode cX11_cleared 66 = .ok (.invokevirtual 296, 3) := by decide +kernel
theorem dX11_cleared_69 : decode cX11_cleared 69 = .ok (.aload_n 0, 1) := by decide +kernel
theorem dX11_cleared_70 : decode cX11_cleared 70 = .ok (.getfield 35, 3) := by decide +kernel
theorem dX11_cleared_73 : decode cX11_cleared 73 = .ok (.getfield 240, 3) := by decide +kernel
theorem dX11_cleared_76 : decode cX11_cleared 76 = .ok (.iload_n 1, 1) := by decide +kernel
theorem dX11_cleared_77 : decode cX11_cleared 77 = .ok (.invokestatic 243, 3) := by decide +kernel
theorem dX11_cleared_80 : decode cX11_cleared 80 = .ok (.iaload, 1) := by decide +kernel
theorem dX11_cleared_81 : decode cX11_cleared 81 = .ok (.ireturn, 1) := by decide +kernel
theorem dX11_cleared_82 : decode cX11_cleared 82 = .ok (.aload_n 0, 1) := by decide +kernel
theorem dX11_cleared_83 : decode cX11_cleared 83 = .ok (.getfield 35, 3) := by decide +kernel
theorem dX11_cleared_86 : decode cX11_cleared 86 = .ok (.invokevirtual 299, 3) := by decide +kernel
theorem dX11_cleared_89 : decode cX11_cleared 89 = .ok (.istore 4, 2) := by decide +kernel
theorem dX11_cleared_91 : decode cX11_cleared 91 = .ok (.iload_n 2, 1) := by decide +kernel
theorem dX11_cleared_92 : decode cX11_cleared 92 = .ok (.iconst 1, 1) := by decide +kernel
theorem dX11_cleared_93 : decode cX11_cleared 93 = .ok (.if_icmp .ne 8, 3) := by decide +kernel
theorem dX11_cleared_96 : decode cX11_cleared 96 = .ok (.iload 4, 2) := by decide +kernel
theorem dX11_cleared_98 : decode cX11_cleared 98 = .ok (.goto 12, 3) := by decide +kernel
theorem dX11_cleared_101 : decode cX11_cleared 101 = .ok (.aload_n 0, 1) := by decide +kernel
theorem dX11_cleared_102 : decode cX11_cleared 102 = .ok (.getfield 35, 3) := by decide +kernel
theorem dX11_cleared_105 : decode cX11_cleared 105 = .ok (.iload 4, 2) := by decide +kernel
theorem dX11_cleared_107 : decode cX11_cleared 107 = .ok (.invokevirtual 285, 3) := by decide +kernel
theorem dX11_cleared_110 : decode cX11_cleared 110 = .ok (.ireturn, 1) := by decide +kernel
theorem ok_yX11_cleared : yOk yX11_cleared 2 := ⟨by decide +kernel, by decide +kernel, by decide +kernel⟩
def fX11_cleared_51 (n : Nat) (st : St) (v1 : Int32) (v2 : Int32) : Option (Int32 × St) := (fX6_reckonDebts n st).bind (fun r7 => if v2 = 0 then ((fX6_clearRings n r7).bind (fun r15 => gd (inB (fX11_debtAt v1) 36) (some ((gI r15 25 (fX11_debtAt v1).toNatClampNeg), r15)))) else ((fX6_richest n r7).bind (fun r10 => if v2 = (1 : Int32) then (some (r10, r7)) else ((fX6_worthOf n r7 r10).bind (fun r13 => some (r13, r7))))))
set_option maxHeartbeats 4000000 in
theorem tX11_cleared_51 {p : Program} {l : Launch} {e : Env} {s : State} {m : MethodId} {args : Array Value} {below : List Frame} {meth : Method} {c : Code} {X : WX} (C : Amb 65 X p s m args meth c cX11_cleared 5 RX11) (hr : meth.sig.returnType = some .int) {R : Int32 × St} {n : Nat} : ∀ (st : St) (v1 : Int32) (v2 : Int32) (H : Heap) (locs : List Loc) (ls : Array Slot), Wd EC 65 X s.heap st H locs → lv_has ls 5 [(0, .ref (xq X 0)), (1, .int v1), (2, .int v2)] → fX11_cleared_51 n st v1 v2 = some R → W p l e { frames := 6, cells := 0, slots := 0, locals := 151 } s m args below meth c H locs 0 0 (QI EC 65 X R.1 R.2 below args s) (F0 m 51 ls []) := by
  obtain ⟨hx, hb, hml, hown, hts⟩ := id C.1
  intro st v1 v2 H locs ls  hw hl hf
  unfold fX11_cleared_51 at hf
  refine lv_aload_n hx hb dX11_cleared_51 rfl (lv_at hl 0 rfl) ?_
  refine w_get (T := TX11) C hw (by decide) 3 kf_X11_35 (EC_0 X _ _) rfl inA11 (by decide) rfl dX11_cleared_52 ?_
  obtain ⟨r7, k8, hf⟩ := bd_some hf
  refine w_goV hw (w_runV (rest := []) C hw (zX6_reckonDebts _ _ n st r7 k8) (by decide) (EC_24 X _ _) rfl km_X11_231 ki_yX6_reckonDebts kv_X6_reckonDebts kz_X6 kc_X6_reckonDebts rfl ok_yX6_reckonDebts ⟨Nat.le_of_ble_eq_true rfl, Nat.le_of_ble_eq_true rfl⟩ rfl rfl rfl rfl hl.1 (Nat.le_of_ble_eq_true rfl) dX11_cleared_55 ⟨Nat.zero_le _, Nat.zero_le _⟩) (fun H locs hw => ?_)
  refine lv_iload_n hx hb dX11_cleared_58 rfl (lv_at hl 2 rfl) ?_
  refine lv_if_ne (tgt := 82) hx hb dX11_cleared_59 (by decide) (fun c9 => ?_) (fun c9 => ?_)
  · replace hf := ite_f hf c9
    refine lv_aload_n hx hb dX11_cleared_82 rfl (lv_at hl 0 rfl) ?_
    refine w_get (T := TX11) C hw (by decide) 3 kf_X11_35 (EC_0 X _ _) rfl inA11 (by decide) rfl dX11_cleared_83 ?_
    obtain ⟨r10, k11, hf⟩ := bd_some hf
    refine w_goI hw (w_runV (rest := []) C hw (zX6_richest _ _ n r7 r10 k11) (by decide) (EC_24 X _ _) rfl km_X11_299 ki_yX6_richest kv_X6_richest kz_X6 kc_X6_richest rfl ok_yX6_richest ⟨Nat.le_of_ble_eq_true rfl, Nat.le_of_ble_eq_true rfl⟩ rfl rfl rfl rfl hl.1 (Nat.le_of_ble_eq_true rfl) dX11_cleared_86 ⟨Nat.zero_le _, Nat.zero_le _⟩) (fun H locs hw => ?_)
    refine lv_istore (lv' := [(4, .int r10), (0, .ref (xq X 0)), (1, .int v1), (2, .int v2)]) hx hb dX11_cleared_89 hl (by decide) rfl (fun ls hl => ?_)
    refine lv_iload_n hx hb dX11_cleared_91 rfl (lv_at hl 3 rfl) ?_
    refine lv_iconst (v := 1) hx hb dX11_cleared_92 (by decide) ?_
    refine lv_icmp_ne (tgt := 101) hx hb dX11_cleared_93 (by decide) (fun c12 => ?_) (fun c12 => ?_)
    · replace hf := ite_f hf c12
      refine lv_aload_n hx hb dX11_cleared_101 rfl (lv_at hl 1 rfl) ?_
      refine w_get (T := TX11) C hw (by decide) 3 kf_X11_35 (EC_0 X _ _) rfl inA11 (by decide) rfl dX11_cleared_102 ?_
      refine lv_iload hx hb dX11_cleared_105 (lv_at hl 0 rfl) ?_
      obtain ⟨r13, k14, hf⟩ := bd_some hf
      refine w_goI hw (w_runV (rest := []) C hw (zX6_worthOf _ _ n r7 r10 r13 k14) (by decide) (EC_24 X _ _) rfl km_X11_285 ki_yX6_worthOf kv_X6_worthOf kz_X6 kc_X6_worthOf rfl ok_yX6_worthOf ⟨Nat.le_of_ble_eq_true rfl, Nat.le_of_ble_eq_true rfl⟩ rfl rfl rfl rfl hl.1 (Nat.le_of_ble_eq_true rfl) dX11_cleared_107 ⟨Nat.zero_le _, Nat.zero_le _⟩) (fun H locs hw => ?_)
      exact w_iret C hw hr (so2 hf).1 (so2 hf).2 dX11_cleared_110
    · replace hf := ite_t hf c12
      refine lv_iload hx hb dX11_cleared_96 (lv_at hl 0 rfl) ?_
      refine lv_goto (tgt := 110) hx hb dX11_cleared_98 (by decide) ?_
      exact w_iret C hw hr (so2 hf).1 (so2 hf).2 dX11_cleared_110
  · replace hf := ite_t hf c9
    refine lv_aload_n hx hb dX11_cleared_62 rfl (lv_at hl 0 rfl) ?_
    refine w_get (T := TX11) C hw (by decide) 3 kf_X11_35 (EC_0 X _ _) rfl inA11 (by decide) rfl dX11_cleared_63 ?_
    obtain ⟨r15, k16, hf⟩ := bd_some hf
    refine w_goV hw (w_runV (rest := []) C hw (zX6_clearRings _ _ n r7 r15 k16) (by decide) (EC_24 X _ _) rfl km_X11_296 ki_yX6_clearRings kv_X6_clearRings kz_X6 kc_X6_clearRings rfl ok_yX6_clearRings ⟨Nat.le_of_ble_eq_true rfl, Nat.le_of_ble_eq_true rfl⟩ rfl rfl rfl rfl hl.1 (Nat.le_of_ble_eq_true rfl) dX11_cleared_66 ⟨Nat.zero_le _, Nat.zero_le _⟩) (fun H locs hw => ?_)
    refine lv_aload_n hx hb dX11_cleared_69 rfl (lv_at hl 0 rfl) ?_
    refine w_get (T := TX11) C hw (by decide) 3 kf_X11_35 (EC_0 X _ _) rfl inA11 (by decide) rfl dX11_cleared_70 ?_
    refine w_get (T := TX6) C hw (by decide) 0 kf_X11_240 (EC_24 X _ _) rfl inA6 (by decide) rfl dX11_cleared_73 ?_
    refine lv_iload_n hx hb dX11_cleared_76 rfl (lv_at hl 1 rfl) ?_
    refine w_goI hw (w_runS (rest := [.ref (xq X 25)]) C hw (zX11_debtAt _ _ r15 v1) km_X11_243 kt_yX11_debtAt kz_X11 kc_X11_debtAt ok_yX11_debtAt ⟨Nat.le_of_ble_eq_true rfl, Nat.le_of_ble_eq_true rfl⟩ rfl rfl rfl rfl hl.1 (Nat.le_of_ble_eq_true rfl) dX11_cleared_77 ⟨Nat.zero_le _, Nat.zero_le _⟩) (fun H locs hw => ?_)
    obtain ⟨h17, hf⟩ := gd_some hf
    refine w_iald C hw (by decide) (EC_25 X _ _) h17 rfl dX11_cleared_80 ?_
    exact w_iret C hw hr (so2 hf).1 (so2 hf).2 dX11_cleared_81
def fX11_cleared_23 (n : Nat) (st : St) (v1 : Int32) (v2 : Int32) (w0 : Int32) : Option (Int32 × St) := if v2 = 0 then (if w0 = 0 then (some ((-2000000000 : Int32), st)) else (fX11_cleared_51 n st v1 v2)) else (if v1 = 0 then (if bI (fX11_isWithin v2 (1 : Int32) (2 : Int32)) = 0 then (some ((-2000000000 : Int32), st)) else (fX11_cleared_51 n st v1 v2)) else (some ((-2000000000 : Int32), st)))
set_option maxHeartbeats 4000000 in
theorem tX11_cleared_23 {p : Program} {l : Launch} {e : Env} {s : State} {m : MethodId} {args : Array Value} {below : List Frame} {meth : Method} {c : Code} {X : WX} (C : Amb 65 X p s m args meth c cX11_cleared 5 RX11) (hr : meth.sig.returnType = some .int) {R : Int32 × St} {n : Nat} : ∀ (st : St) (v1 : Int32) (v2 : Int32) (w0 : Int32) (H : Heap) (locs : List Loc) (ls : Array Slot), Wd EC 65 X s.heap st H locs → lv_has ls 5 [(0, .ref (xq X 0)), (1, .int v1), (2, .int v2)] → fX11_cleared_23 n st v1 v2 w0 = some R → W p l e { frames := 6, cells := 0, slots := 0, locals := 151 } s m args below meth c H locs 0 0 (QI EC 65 X R.1 R.2 below args s) (F0 m 23 ls [.int w0]) := by
  obtain ⟨hx, hb, hml, hown, hts⟩ := id C.1
  intro st v1 v2 w0 H locs ls  hw hl hf
  unfold fX11_cleared_23 at hf
  refine lv_istore_n (lv' := [(3, .int w0), (0, .ref (xq X 0)), (1, .int v1), (2, .int v2)]) hx hb dX11_cleared_23 rfl hl (by decide) rfl (fun ls hl => ?_)
  refine lv_iload_n hx hb dX11_cleared_24 rfl (lv_at hl 3 rfl) ?_
  refine lv_if_ne (tgt := 35) hx hb dX11_cleared_25 (by decide) (fun c3 => ?_) (fun c3 => ?_)
  · replace hf := ite_f hf c3
    refine lv_iload_n hx hb dX11_cleared_35 rfl (lv_at hl 2 rfl) ?_
    refine lv_if_ne (tgt := 48) hx hb dX11_cleared_36 (by decide) (fun c4 => ?_) (fun c4 => ?_)
    · replace hf := ite_f hf c4
      refine lv_ldc (v := -2000000000) hx hb hown (hts _ kn_X11_170) dX11_cleared_48 ?_
      exact w_iret C hw hr (so2 hf).1 (so2 hf).2 dX11_cleared_50
    · replace hf := ite_t hf c4
      refine lv_iload_n hx hb dX11_cleared_39 rfl (lv_at hl 3 rfl) ?_
      refine lv_iconst (v := 1) hx hb dX11_cleared_40 (by decide) ?_
      refine lv_iconst (v := 2) hx hb dX11_cleared_41 (by decide) ?_
      refine w_goI hw (w_runS (rest := []) C hw (zX11_isWithin _ _ st v2 (1 : Int32) (2 : Int32)) km_X11_117 kt_yX11_isWithin kz_X11 kc_X11_isWithin ok_yX11_isWithin ⟨Nat.le_of_ble_eq_true rfl, Nat.le_of_ble_eq_true rfl⟩ rfl rfl rfl rfl hl.1 (Nat.le_of_ble_eq_true rfl) dX11_cleared_42 ⟨Nat.zero_le _, Nat.zero_le _⟩) (fun H locs hw => ?_)
      refine lv_if_ne (tgt := 51) hx hb dX11_cleared_45 (by decide) (fun c5 => ?_) (fun c5 => ?_)
      · replace hf := ite_f hf c5
        exact tX11_cleared_51 C hr st v1 v2 _ _ _ hw (lv_sub hl [1, 2, 3] rfl) hf
      · replace hf := ite_t hf c5
        refine lv_ldc (v := -2000000000) hx hb hown (hts _ kn_X11_170) dX11_cleared_48 ?_
        exact w_iret C hw hr (so2 hf).1 (so2 hf).2 dX11_cleared_50
  · replace hf := ite_t hf c3
    refine lv_iload_n hx hb dX11_cleared_28 rfl (lv_at hl 0 rfl) ?_
    refine lv_if_ne (tgt := 51) hx hb dX11_cleared_29 (by decide) (fun c6 => ?_) (fun c6 => ?_)
    · replace hf := ite_f hf c6
      exact tX11_cleared_51 C hr st v1 v2 _ _ _ hw (lv_sub hl [1, 2, 3] rfl) hf
    · replace hf := ite_t hf c6
      refine lv_goto (tgt := 48) hx hb dX11_cleared_32 (by decide) ?_
      refine lv_ldc (v := -2000000000) hx hb hown (hts _ kn_X11_170) dX11_cleared_48 ?_
      exact w_iret C hw hr (so2 hf).1 (so2 hf).2 dX11_cleared_50
def fX11_cleared_22 (n : Nat) (st : St) (v1 : Int32) (v2 : Int32) : Option (Int32 × St) := fX11_cleared_23 n st v1 v2 (0 : Int32)
set_option maxHeartbeats 4000000 in
theorem tX11_cleared_22 {p : Program} {l : Launch} {e : Env} {s : State} {m : MethodId} {args : Array Value} {below : List Frame} {meth : Method} {c : Code} {X : WX} (C : Amb 65 X p s m args meth c cX11_cleared 5 RX11) (hr : meth.sig.returnType = some .int) {R : Int32 × St} {n : Nat} : ∀ (st : St) (v1 : Int32) (v2 : Int32) (H : Heap) (locs : List Loc) (ls : Array Slot), Wd EC 65 X s.heap st H locs → lv_has ls 5 [(0, .ref (xq X 0)), (1, .int v1), (2, .int v2)] → fX11_cleared_22 n st v1 v2 = some R → W p l e { frames := 6, cells := 0, slots := 0, locals := 151 } s m args below meth c H locs 0 0 (QI EC 65 X R.1 R.2 below args s) (F0 m 22 ls []) := by
  obtain ⟨hx, hb, hml, hown, hts⟩ := id C.1
  intro st v1 v2 H locs ls  hw hl hf
  unfold fX11_cleared_22 at hf
  refine lv_iconst (v := 0) hx hb dX11_cleared_22 (by decide) ?_
  exact tX11_cleared_23 C hr st v1 v2 (0 : Int32) _ _ _ hw (lv_sub hl [0, 1, 2] rfl) hf
def fX11_cleared (n : Nat) (st : St) (a1 : Int32) (a2 : Int32) : Option (Int32 × St) := if bI (fX11_isPair a1) = 0 then (fX11_cleared_22 n st a1 a2) else (if a1 / (10 : Int32) = rmI a1 (10 : Int32) then (fX11_cleared_22 n st a1 a2) else (fX11_cleared_23 n st a1 a2 (1 : Int32)))
set_option maxHeartbeats 4000000 in
theorem zX11_cleared (l : Launch) (X : WX) (n : Nat) (st : St) (a1 : Int32) (a2 : Int32) (R : Int32 × St) (hf : fX11_cleared n st a1 a2 = some R) : CtI l yX11_cleared cX11_cleared 5 .int ({ frames := 6, cells := 0, slots := 0, locals := 151 }) EC 65 X [.ref (xq X 0), .int a1, .int a2] st R.1 R.2 := by
  refine ct_in (own := RX11) (by decide +kernel) rfl (Nat.le_of_ble_eq_true rfl) (fun p e s m below meth c C hr hw ls hl => ?_)
  obtain ⟨hx, hb, hml, hown, hts⟩ := id C.1
  have hl : lv_has ls 5 [(0, .ref (xq X 0)), (1, .int a1), (2, .int a2)] := hl
  unfold fX11_cleared at hf
  refine lv_iload_n hx hb dX11_cleared_0 rfl (lv_at hl 1 rfl) ?_
  refine w_goI hw (w_runS (rest := []) C hw (zX11_isPair _ _ st a1) km_X11_228 kt_yX11_isPair kz_X11 kc_X11_isPair ok_yX11_isPair ⟨Nat.le_of_ble_eq_true rfl, Nat.le_of_ble_eq_true rfl⟩ rfl rfl rfl rfl hl.1 (Nat.le_of_ble_eq_true rfl) dX11_cleared_1 ⟨Nat.zero_le _, Nat.zero_le _⟩) (fun H locs hw => ?_)
  refine lv_if_eq (tgt := 22) hx hb dX11_cleared_4 (by decide) (fun c1 => ?_) (fun c1 => ?_)
  · replace hf := ite_t hf c1
    exact tX11_cleared_22 C hr st a1 a2 _ _ _ hw (lv_sub hl [0, 1, 2] rfl) hf
  · replace hf := ite_f hf c1
    refine lv_iload_n hx hb dX11_cleared_7 rfl (lv_at hl 1 rfl) ?_
    refine lv_bipush (v := 10) hx hb dX11_cleared_8 (by decide) ?_
    refine lv_idiv hx hb dX11_cleared_10 (by decide) ?_
    refine lv_iload_n hx hb dX11_cleared_11 rfl (lv_at hl 1 rfl) ?_
    refine lv_bipush (v := 10) hx hb dX11_cleared_12 (by decide) ?_
    refine w_irem C (by decide) dX11_cleared_14 ?_
    refine lv_icmp_eq (tgt := 22) hx hb dX11_cleared_15 (by decide) (fun c2 => ?_) (fun c2 => ?_)
    · replace hf := ite_t hf c2
      exact tX11_cleared_22 C hr st a1 a2 _ _ _ hw (lv_sub hl [0, 1, 2] rfl) hf
    · replace hf := ite_f hf c2
      refine lv_iconst (v := 1) hx hb dX11_cleared_18 (by decide) ?_
      refine lv_goto (tgt := 23) hx hb dX11_cleared_19 (by decide) ?_
      exact tX11_cleared_23 C hr st a1 a2 (1 : Int32) _ _ _ hw (lv_sub hl [0, 1, 2] rfl) hf
theorem dX11_refusalOfRow_0 : decode cX11_refusalOfRow 0 = .ok (.iload_n 1, 1) := by decide +kernel
theorem dX11_refusalOfRow_1 : decode cX11_refusalOfRow 1 = .ok (.invokestatic 127, 3) := by decide +kernel
theorem dX11_refusalOfRow_4 : decode cX11_refusalOfRow 4 = .ok (.ifCond .eq 16, 3) := by decide +kernel
theorem dX11_refusalOfRow_7 : decode cX11_refusalOfRow 7 = .ok (.aload_n 0, 1) := by decide +kernel
theorem dX11_refusalOfRow_8 : decode cX11_refusalOfRow 8 = .ok (.getfield 98, 3) := by decide +kernel
theorem dX11_refusalOfRow_11 : decode cX11_refusalOfRow 11 = .ok (.iload_n 1, 1) := by decide +kernel
theorem dX11_refusalOfRow_12 : decode cX11_refusalOfRow 12 = .ok (.aaload, 1) := by decide +kernel
theorem dX11_refusalOfRow_13 : decode cX11_refusalOfRow 13 = .ok (.iload_n 2, 1) := by decide +kernel
theorem dX11_refusalOfRow_14 : decode cX11_refusalOfRow 14 = .ok (.invokevirtual 130, 3) := by decide +kernel
theorem dX11_refusalOfRow_17 : decode cX11_refusalOfRow 17 = .ok (.goto 4, 3) := by decide +kernel
theorem dX11_refusalOfRow_20 : decode cX11_refusalOfRow 20 = .ok (.iconst (-1), 1) := by decide +kernel
theorem dX11_refusalOfRow_21 : decode cX11_refusalOfRow 21 = .ok (.ireturn, 1) := by decide +kernel
theorem ok_yX11_refusalOfRow : yOk yX11_refusalOfRow 2 := ⟨by decide +kernel, by decide +kernel, by decide +kernel⟩
def fX11_refusalOfRow (st : St) (a1 : Int32) (a2 : Int32) : Option (Int32) := if bI (fX11_isShelf a1) = 0 then (some (-1 : Int32)) else (gd (inB a1 6) (some (fX7_refusalOfRow st a1.toNatClampNeg a2)))
set_option maxHeartbeats 4000000 in
theorem zX11_refusalOfRow (l : Launch) (X : WX) (st : St) (a1 : Int32) (a2 : Int32) (R : Int32) (hf : fX11_refusalOfRow st a1 a2 = some R) : CtI l yX11_refusalOfRow cX11_refusalOfRow 3 .int ({ frames := 2, cells := 0, slots := 0, locals := 42 }) EC 65 X [.ref (xq X 0), .int a1, .int a2] st R st := by
  refine ct_in (own := RX11) (by decide +kernel) rfl (Nat.le_of_ble_eq_true rfl) (fun p e s m below meth c C hr hw ls hl => ?_)
  obtain ⟨hx, hb, hml, hown, hts⟩ := id C.1
  have hl : lv_has ls 3 [(0, .ref (xq X 0)), (1, .int a1), (2, .int a2)] := hl
  unfold fX11_refusalOfRow at hf
  refine lv_iload_n hx hb dX11_refusalOfRow_0 rfl (lv_at hl 1 rfl) ?_
  refine w_goI hw (w_runS (rest := []) C hw (zX11_isShelf _ _ st a1) km_X11_127 kt_yX11_isShelf kz_X11 kc_X11_isShelf ok_yX11_isShelf ⟨Nat.le_of_ble_eq_true rfl, Nat.le_of_ble_eq_true rfl⟩ rfl rfl rfl rfl hl.1 (Nat.le_of_ble_eq_true rfl) dX11_refusalOfRow_1 ⟨Nat.zero_le _, Nat.zero_le _⟩) (fun H locs hw => ?_)
  refine lv_if_eq (tgt := 20) hx hb dX11_refusalOfRow_4 (by decide) (fun c1 => ?_) (fun c1 => ?_)
  · replace hf := ite_t hf c1
    refine lv_iconst (v := -1) hx hb dX11_refusalOfRow_20 (by decide) ?_
    exact w_iret C hw hr (Option.some.inj hf) rfl dX11_refusalOfRow_21
  · replace hf := ite_f hf c1
    refine lv_aload_n hx hb dX11_refusalOfRow_7 rfl (lv_at hl 0 rfl) ?_
    refine w_get (T := TX11) C hw (by decide) 13 kf_X11_98 (EC_0 X _ _) rfl inA11 (by decide) rfl dX11_refusalOfRow_8 ?_
    refine lv_iload_n hx hb dX11_refusalOfRow_11 rfl (lv_at hl 1 rfl) ?_
    obtain ⟨h2, hf⟩ := gd_some hf
    refine w_aald (k' := (53 + 2 * a1.toNatClampNeg)) C hw (by decide) (EC_52 X _ _) rfl rfl h2 rfl dX11_refusalOfRow_12 ?_
    refine lv_iload_n hx hb dX11_refusalOfRow_13 rfl (lv_at hl 2 rfl) ?_
    refine w_goI hw (w_runV (rest := []) C hw (zX7_refusalOfRow _ _ st a1.toNatClampNeg a2 (inB_lt h2)) (by have := (inB_lt h2); omega) (EC_sh X (inB_lt h2) _ _) rfl km_X11_130 ki_yX7_refusalOfRow kv_X7_refusalOfRow kz_X7 kc_X7_refusalOfRow rfl ok_yX7_refusalOfRow ⟨Nat.le_of_ble_eq_true rfl, Nat.le_of_ble_eq_true rfl⟩ rfl rfl rfl rfl hl.1 (Nat.le_of_ble_eq_true rfl) dX11_refusalOfRow_14 ⟨Nat.zero_le _, Nat.zero_le _⟩) (fun H locs hw => ?_)
    refine lv_goto (tgt := 21) hx hb dX11_refusalOfRow_17 (by decide) ?_
    exact w_iret C hw hr (Option.some.inj hf) rfl dX11_refusalOfRow_21
theorem dX11_sight_0 : decode cX11_sight 0 = .ok (.iload_n 2, 1) := by decide +kernel
theorem dX11_sight_1 : decode cX11_sight 1 = .ok (.iconst 0, 1) := by decide +kernel
theorem dX11_sight_2 : decode cX11_sight 2 = .ok (.iconst 3, 1) := by decide +kernel
theorem dX11_sight_3 : decode cX11_sight 3 = .ok (.invokestatic 117, 3) := by decide +kernel
theorem dX11_sight_6 : decode cX11_sight 6 = .ok (.ifCond .eq 12, 3) := by decide +kernel
theorem dX11_sight_9 : decode cX11_sight 9 = .ok (.aload_n 0, 1) := by decide +kernel
theorem dX11_sight_10 : decode cX11_sight 10 = .ok (.iload_n 1, 1) := by decide +kernel
theorem dX11_sight_11 : decode cX11_sight 11 = .ok (.iconst 0, 1) := by decide +kernel
theorem dX11_sight_12 : decode cX11_sight 12 = .ok (.invokevirtual 302, 3) := by decide +kernel
theorem dX11_sight_15 : decode cX11_sight 15 = .ok (.goto 4, 3) := by decide +kernel
theorem dX11_sight_18 : decode cX11_sight 18 = .ok (.iconst (-1), 1) := by decide +kernel
theorem dX11_sight_19 : decode cX11_sight 19 = .ok (.istore_n 3, 1) := by decide +kernel
theorem dX11_sight_20 : decode cX11_sight 20 = .ok (.iload_n 3, 1) := by decide +kernel
theorem dX11_sight_21 : decode cX11_sight 21 = .ok (.ifCond .eq 5, 3) := by decide +kernel
theorem dX11_sight_24 : decode cX11_sight 24 = .ok (.iload_n 3, 1) := by decide +kernel
theorem dX11_sight_25 : decode cX11_sight 25 = .ok (.ireturn, 1) := by decide +kernel
theorem dX11_sight_26 : decode cX11_sight 26 = .ok (.aload_n 0, 1) := by decide +kernel
theorem dX11_sight_27 : decode cX11_sight 27 = .ok (.getfield 60, 3) := by decide +kernel
theorem dX11_sight_30 : decode cX11_sight 30 = .ok (.aload_n 0, 1) := by decide +kernel
theorem dX11_sight_31 : decode cX11_sight 31 = .ok (.getfield 98, 3) := by decide +kernel
theorem dX11_sight_34 : decode cX11_sight 34 = .ok (.iload_n 1, 1) := by decide +kernel
theorem dX11_sight_35 : decode cX11_sight 35 = .ok (.aaload, 1) := by decide +kernel
theorem dX11_sight_36 : decode cX11_sight 36 = .ok (.invokevirtual 304, 3) := by decide +kernel
theorem dX11_sight_39 : decode cX11_sight 39 = .ok (.iload_n 2, 1) := by decide +kernel
theorem dX11_sight_40 : decode cX11_sight 40 = .ok (.tableswitch 52 0 2 #[28, 36, 44], 28) := by decide +kernel
theorem dX11_sight_68 : decode cX11_sight 68 = .ok (.aload_n 0, 1) := by decide +kernel
theorem dX11_sight_69 : decode cX11_sight 69 = .ok (.getfield 60, 3) := by decide +kernel
theorem dX11_sight_72 : decode cX11_sight 72 = .ok (.getfield 308, 3) := by decide +kernel
theorem dX11_sight_75 : decode cX11_sight 75 = .ok (.ireturn, 1) := by decide +kernel
theorem dX11_sight_76 : decode cX11_sight 76 = .ok (.aload_n 0, 1) := by decide +kernel
theorem dX11_sight_77 : decode cX11_sight 77 = .ok (.getfield 60, 3) := by decide +kernel
theorem dX11_sight_80 : decode cX11_sight 80 = .ok (.getfield 309, 3) := by decide +kernel
theorem dX11_sight_83 : decode cX11_sight 83 = .ok (.ireturn, 1) := by decide +kernel
theorem dX11_sight_84 : decode cX11_sight 84 = .ok (.aload_n 0, 1) := by decide +kernel
theorem dX11_sight_85 : decode cX11_sight 85 = .ok (.getfield 60, 3) := by decide +kernel
theorem dX11_sight_88 : decode cX11_sight 88 = .ok (.getfield 312, 3) := by decide +kernel
theorem dX11_sight_91 : decode cX11_sight 91 = .ok (.ireturn, 1) := by decide +kernel
theorem dX11_sight_92 : decode cX11_sight 92 = .ok (.aload_n 0, 1) := by decide +kernel
theorem dX11_sight_93 : decode cX11_sight 93 = .ok (.getfield 60, 3) := by decide +kernel
theorem dX11_sight_96 : decode cX11_sight 96 = .ok (.invokevirtual 313, 3) := by decide +kernel
theorem dX11_sight_99 : decode cX11_sight 99 = .ok (.ireturn, 1) := by decide +kernel
theorem ok_yX11_sight : yOk yX11_sight 2 := ⟨by decide +kernel, by decide +kernel, by decide +kernel⟩
def fX11_sight_19 (n : Nat) (st : St) (v1 : Int32) (v2 : Int32) (w0 : Int32) : Option (Int32 × St) := if w0 = 0 then (gd (inB v1 6) ((fX8_look n st v1.toNatClampNeg).bind (fun r6 => if v2 = 0 then (some ((gI r6 36 0), r6)) else (if v2 = 1 then (some ((gI r6 36 1), r6)) else (if v2 = 2 then (some ((gI r6 36 2), r6)) else ((fX8_columnToAsk n r6).bind (fun r11 => some (r11, r6)))))))) else (some (w0, st))
set_option maxHeartbeats 4000000 in
theorem tX11_sight_19 {p : Program} {l : Launch} {e : Env} {s : State} {m : MethodId} {args : Array Value} {below : List Frame} {meth : Method} {c : Code} {X : WX} (C : Amb 65 X p s m args meth c cX11_sight 4 RX11) (hr : meth.sig.returnType = some .int) {R : Int32 × St} {n : Nat} : ∀ (st : St) (v1 : Int32) (v2 : Int32) (w0 : Int32) (H : Heap) (locs : List Loc) (ls : Array Slot), Wd EC 65 X s.heap st H locs → lv_has ls 4 [(0, .ref (xq X 0)), (1, .int v1), (2, .int v2)] → fX11_sight_19 n st v1 v2 w0 = some R → W p l e { frames := 3, cells := 0, slots := 0, locals := 72 } s m args below meth c H locs 0 0 (QI EC 65 X R.1 R.2 below args s) (F0 m 19 ls [.int w0]) := by
  obtain ⟨hx, hb, hml, hown, hts⟩ := id C.1
  intro st v1 v2 w0 H locs ls  hw hl hf
  unfold fX11_sight_19 at hf
  refine lv_istore_n (lv' := [(3, .int w0), (0, .ref (xq X 0)), (1, .int v1), (2, .int v2)]) hx hb dX11_sight_19 rfl hl (by decide) rfl (fun ls hl => ?_)
  refine lv_iload_n hx hb dX11_sight_20 rfl (lv_at hl 0 rfl) ?_
  refine lv_if_eq (tgt := 26) hx hb dX11_sight_21 (by decide) (fun c4 => ?_) (fun c4 => ?_)
  · replace hf := ite_t hf c4
    refine lv_aload_n hx hb dX11_sight_26 rfl (lv_at hl 1 rfl) ?_
    refine w_get (T := TX11) C hw (by decide) 6 kf_X11_60 (EC_0 X _ _) rfl inA11 (by decide) rfl dX11_sight_27 ?_
    refine lv_aload_n hx hb dX11_sight_30 rfl (lv_at hl 1 rfl) ?_
    refine w_get (T := TX11) C hw (by decide) 13 kf_X11_98 (EC_0 X _ _) rfl inA11 (by decide) rfl dX11_sight_31 ?_
    refine lv_iload_n hx hb dX11_sight_34 rfl (lv_at hl 2 rfl) ?_
    obtain ⟨h5, hf⟩ := gd_some hf
    refine w_aald (k' := (53 + 2 * v1.toNatClampNeg)) C hw (by decide) (EC_52 X _ _) rfl rfl h5 rfl dX11_sight_35 ?_
    obtain ⟨r6, k7, hf⟩ := bd_some hf
    refine w_goV hw (w_runV (rest := []) C hw (zX8_look _ _ n st v1.toNatClampNeg (inB_lt h5) r6 k7) (by decide) (EC_36 X _ _) rfl km_X11_304 ki_yX8_look kv_X8_look kz_X8 kc_X8_look rfl ok_yX8_look ⟨Nat.le_of_ble_eq_true rfl, Nat.le_of_ble_eq_true rfl⟩ rfl rfl rfl rfl hl.1 (Nat.le_of_ble_eq_true rfl) dX11_sight_36 ⟨Nat.zero_le _, Nat.zero_le _⟩) (fun H locs hw => ?_)
    refine lv_iload_n hx hb dX11_sight_39 rfl (lv_at hl 3 rfl) ?_
    by_cases c8 : v2 = 0
    · replace hf := ite_t hf c8
      refine lv_tableIn (tgt := 68) hx hb dX11_sight_40 (by rw [c8]; decide) (by rw [c8]; decide) (by rw [c8]; rfl) (by decide) ?_
      refine lv_aload_n hx hb dX11_sight_68 rfl (lv_at hl 1 rfl) ?_
      refine w_get (T := TX11) C hw (by decide) 6 kf_X11_60 (EC_0 X _ _) rfl inA11 (by decide) rfl dX11_sight_69 ?_
      refine w_get (T := TX8) C hw (by decide) 0 kf_X11_308 (EC_36 X _ _) rfl inA8 (by decide) rfl dX11_sight_72 ?_
      exact w_iret C hw hr (so2 hf).1 (so2 hf).2 dX11_sight_75
    · replace hf := ite_f hf c8
      by_cases c9 : v2 = 1
      · replace hf := ite_t hf c9
        refine lv_tableIn (tgt := 76) hx hb dX11_sight_40 (by rw [c9]; decide) (by rw [c9]; decide) (by rw [c9]; rfl) (by decide) ?_
        refine lv_aload_n hx hb dX11_sight_76 rfl (lv_at hl 1 rfl) ?_
        refine w_get (T := TX11) C hw (by decide) 6 kf_X11_60 (EC_0 X _ _) rfl inA11 (by decide) rfl dX11_sight_77 ?_
        refine w_get (T := TX8) C hw (by decide) 1 kf_X11_309 (EC_36 X _ _) rfl inA8 (by decide) rfl dX11_sight_80 ?_
        exact w_iret C hw hr (so2 hf).1 (so2 hf).2 dX11_sight_83
      · replace hf := ite_f hf c9
        by_cases c10 : v2 = 2
        · replace hf := ite_t hf c10
          refine lv_tableIn (tgt := 84) hx hb dX11_sight_40 (by rw [c10]; decide) (by rw [c10]; decide) (by rw [c10]; rfl) (by decide) ?_
          refine lv_aload_n hx hb dX11_sight_84 rfl (lv_at hl 1 rfl) ?_
          refine w_get (T := TX11) C hw (by decide) 6 kf_X11_60 (EC_0 X _ _) rfl inA11 (by decide) rfl dX11_sight_85 ?_
          refine w_get (T := TX8) C hw (by decide) 2 kf_X11_312 (EC_36 X _ _) rfl inA8 (by decide) rfl dX11_sight_88 ?_
          exact w_iret C hw hr (so2 hf).1 (so2 hf).2 dX11_sight_91
        · replace hf := ite_f hf c10
          refine lv_tableOut (tgt := 92) hx hb dX11_sight_40 (by have q0 := ne_toInt (a := 0) c8 (by decide); have q1 := ne_toInt (a := 1) c9 (by decide); have q2 := ne_toInt (a := 2) c10 (by decide); omega) (by decide) ?_
          refine lv_aload_n hx hb dX11_sight_92 rfl (lv_at hl 1 rfl) ?_
          refine w_get (T := TX11) C hw (by decide) 6 kf_X11_60 (EC_0 X _ _) rfl inA11 (by decide) rfl dX11_sight_93 ?_
          obtain ⟨r11, k12, hf⟩ := bd_some hf
          refine w_goI hw (w_runV (rest := []) C hw (zX8_columnToAsk _ _ n r6 r11 k12) (by decide) (EC_36 X _ _) rfl km_X11_313 ki_yX8_columnToAsk kv_X8_columnToAsk kz_X8 kc_X8_columnToAsk rfl ok_yX8_columnToAsk ⟨Nat.le_of_ble_eq_true rfl, Nat.le_of_ble_eq_true rfl⟩ rfl rfl rfl rfl hl.1 (Nat.le_of_ble_eq_true rfl) dX11_sight_96 ⟨Nat.zero_le _, Nat.zero_le _⟩) (fun H locs hw => ?_)
          exact w_iret C hw hr (so2 hf).1 (so2 hf).2 dX11_sight_99
  · replace hf := ite_f hf c4
    refine lv_iload_n hx hb dX11_sight_24 rfl (lv_at hl 0 rfl) ?_
    exact w_iret C hw hr (so2 hf).1 (so2 hf).2 dX11_sight_25
def fX11_sight (n : Nat) (st : St) (a1 : Int32) (a2 : Int32) : Option (Int32 × St) := if bI (fX11_isWithin a2 (0 : Int32) (3 : Int32)) = 0 then (fX11_sight_19 n st a1 a2 (-1 : Int32)) else ((fX11_refusalOfRow st a1 (0 : Int32)).bind (fun r2 => fX11_sight_19 n st a1 a2 r2))
set_option maxHeartbeats 4000000 in
theorem zX11_sight (l : Launch) (X : WX) (n : Nat) (st : St) (a1 : Int32) (a2 : Int32) (R : Int32 × St) (hf : fX11_sight n st a1 a2 = some R) : CtI l yX11_sight cX11_sight 4 .int ({ frames := 3, cells := 0, slots := 0, locals := 72 }) EC 65 X [.ref (xq X 0), .int a1, .int a2] st R.1 R.2 := by
  refine ct_in (own := RX11) (by decide +kernel) rfl (Nat.le_of_ble_eq_true rfl) (fun p e s m below meth c C hr hw ls hl => ?_)
  obtain ⟨hx, hb, hml, hown, hts⟩ := id C.1
  have hl : lv_has ls 4 [(0, .ref (xq X 0)), (1, .int a1), (2, .int a2)] := hl
  unfold fX11_sight at hf
  refine lv_iload_n hx hb dX11_sight_0 rfl (lv_at hl 2 rfl) ?_
  refine lv_iconst (v := 0) hx hb dX11_sight_1 (by decide) ?_
  refine lv_iconst (v := 3) hx hb dX11_sight_2 (by decide) ?_
  refine w_goI hw (w_runS (rest := []) C hw (zX11_isWithin _ _ st a2 (0 : Int32) (3 : Int32)) km_X11_117 kt_yX11_isWithin kz_X11 kc_X11_isWithin ok_yX11_isWithin ⟨Nat.le_of_ble_eq_true rfl, Nat.le_of_ble_eq_true rfl⟩ rfl rfl rfl rfl hl.1 (Nat.le_of_ble_eq_true rfl) dX11_sight_3 ⟨Nat.zero_le _, Nat.zero_le _⟩) (fun H locs hw => ?_)
  refine lv_if_eq (tgt := 18) hx hb dX11_sight_6 (by decide) (fun c1 => ?_) (fun c1 => ?_)
  · replace hf := ite_t hf c1
    refine lv_iconst (v := -1) hx hb dX11_sight_18 (by decide) ?_
    exact tX11_sight_19 C hr st a1 a2 (-1 : Int32) _ _ _ hw (lv_sub hl [0, 1, 2] rfl) hf
  · replace hf := ite_f hf c1
    refine lv_aload_n hx hb dX11_sight_9 rfl (lv_at hl 0 rfl) ?_
    refine lv_iload_n hx hb dX11_sight_10 rfl (lv_at hl 1 rfl) ?_
    refine lv_iconst (v := 0) hx hb dX11_sight_11 (by decide) ?_
    obtain ⟨r2, k3, hf⟩ := bd_some hf
    refine w_goI hw (w_runV (rest := []) C hw (zX11_refusalOfRow _ _ st a1 (0 : Int32) r2 k3) (by decide) (EC_0 X _ _) rfl km_X11_302 ki_yX11_refusalOfRow kv_X11_refusalOfRow kz_X11 kc_X11_refusalOfRow rfl ok_yX11_refusalOfRow ⟨Nat.le_of_ble_eq_true rfl, Nat.le_of_ble_eq_true rfl⟩ rfl rfl rfl rfl hl.1 (Nat.le_of_ble_eq_true rfl) dX11_sight_12 ⟨Nat.zero_le _, Nat.zero_le _⟩) (fun H locs hw => ?_)
    refine lv_goto (tgt := 19) hx hb dX11_sight_15 (by decide) ?_
    exact tX11_sight_19 C hr st a1 a2 r2 _ _ _ hw (lv_sub hl [0, 1, 2] rfl) hf
theorem dX11_ears_0 : decode cX11_ears 0 = .ok (.iload_n 2, 1) := by decide +kernel
theorem dX11_ears_1 : decode cX11_ears 1 = .ok (.iconst 0, 1) := by decide +kernel
theorem dX11_ears_2 : decode cX11_ears 2 = .ok (.iconst 2, 1) := by decide +kernel
theorem dX11_ears_3 : decode cX11_ears 3 = .ok (.invokestatic 117, 3) := by decide +kernel
theorem dX11_ears_6 : decode cX11_ears 6 = .ok (.ifCond .eq 12, 3) := by decide +kernel
theorem dX11_ears_9 : decode cX11_ears 9 = .ok (.aload_n 0, 1) := by decide +kernel
theorem dX11_ears_10 : decode cX11_ears 10 = .ok (.iload_n 1, 1) := by decide +kernel
theorem dX11_ears_11 : decode cX11_ears 11 = .ok (.iconst 1, 1) := by decide +kernel
theorem dX11_ears_12 : decode cX11_ears 12 = .ok (.invokevirtual 302, 3) := by decide +kernel
theorem dX11_ears_15 : decode cX11_ears 15 = .ok (.goto 4, 3) := by decide +kernel
theorem dX11_ears_18 : decode cX11_ears 18 = .ok (.iconst (-1), 1) := by decide +kernel
theorem dX11_ears_19 : decode cX11_ears 19 = .ok (.istore_n 3, 1) := by decide +kernel
theorem dX11_ears_20 : decode cX11_ears 20 = .ok (.iload_n 3, 1) := by decide +kernel
theorem dX11_ears_21 : decode cX11_ears 21 = .ok (.ifCond .eq 5, 3) := by decide +kernel
theorem dX11_ears_24 : decode cX11_ears 24 = .ok (.iload_n 3, 1) := by decide +kernel
theorem dX11_ears_25 : decode cX11_ears 25 = .ok (.ireturn, 1) := by decide +kernel
theorem dX11_ears_26 : decode cX11_ears 26 = .ok (.aload_n 0, 1) := by decide +kernel
theorem dX11_ears_27 : decode cX11_ears 27 = .ok (.getfield 60, 3) := by decide +kernel
theorem dX11_ears_30 : decode cX11_ears 30 = .ok (.aload_n 0, 1) := by decide +kernel
theorem dX11_ears_31 : decode cX11_ears 31 = .ok (.getfield 98, 3) := by decide +kernel
theorem dX11_ears_34 : decode cX11_ears 34 = .ok (.iload_n 1, 1) := by decide +kernel
theorem dX11_ears_35 : decode cX11_ears 35 = .ok (.aaload, 1) := by decide +kernel
theorem dX11_ears_36 : decode cX11_ears 36 = .ok (.invokevirtual 316, 3) := by decide +kernel
theorem dX11_ears_39 : decode cX11_ears 39 = .ok (.iload_n 2, 1) := by decide +kernel
theorem dX11_ears_40 : decode cX11_ears 40 = .ok (.ifCond .ne 11, 3) := by decide +kernel
theorem dX11_ears_43 : decode cX11_ears 43 = .ok (.aload_n 0, 1) := by decide +kernel
theorem dX11_ears_44 : decode cX11_ears 44 = .ok (.getfield 60, 3) := by decide +kernel
theorem dX11_ears_47 : decode cX11_ears 47 = .ok (.getfield 308, 3) := by decide +kernel
theorem dX11_ears_50 : decode cX11_ears 50 = .ok (.ireturn, 1) := by decide +kernel
theorem dX11_ears_51 : decode cX11_ears 51 = .ok (.iload_n 2, 1) := by decide +kernel
theorem dX11_ears_52 : decode cX11_ears 52 = .ok (.iconst 1, 1) := by decide +kernel
theorem dX11_ears_53 : decode cX11_ears 53 = .ok (.if_icmp .ne 13, 3) := by decide +kernel
theorem dX11_ears_56 : decode cX11_ears 56 = .ok (.aload_n 0, 1) := by decide +kernel
theorem dX11_ears_57 : decode cX11_ears 57 = .ok (.getfield 60, 3) := by decide +kernel
theorem dX11_ears_60 : decode cX11_ears 60 = .ok (.getfield 309, 3) := by decide +kernel
theorem dX11_ears_63 : decode cX11_ears 63 = .ok (.goto 10, 3) := by decide +kernel
theorem dX11_ears_66 : decode cX11_ears 66 = .ok (.aload_n 0, 1) := by decide +kernel
theorem dX11_ears_67 : decode cX11_ears 67 = .ok (.getfield 60, 3) := by decide +kernel
theorem dX11_ears_70 : decode cX11_ears 70 = .ok (.getfield 319, 3) := by decide +kernel
theorem dX11_ears_73 : decode cX11_ears 73 = .ok (.ireturn, 1) := by decide +kernel
theorem ok_yX11_ears : yOk yX11_ears 2 := ⟨by decide +kernel, by decide +kernel, by decide +kernel⟩
def fX11_ears_19 (n : Nat) (st : St) (v1 : Int32) (v2 : Int32) (w0 : Int32) : Option (Int32 × St) := if w0 = 0 then (gd (inB v1 6) ((fX8_listen n st v1.toNatClampNeg).bind (fun r6 => if v2 = 0 then (some ((gI r6 36 0), r6)) else (if v2 = (1 : Int32) then (some ((gI r6 36 1), r6)) else (some ((gI r6 36 3), r6)))))) else (some (w0, st))
set_option maxHeartbeats 4000000 in
theorem tX11_ears_19 {p : Program} {l : Launch} {e : Env} {s : State} {m : MethodId} {args : Array Value} {below : List Frame} {meth : Method} {c : Code} {X : WX} (C : Amb 65 X p s m args meth c cX11_ears 4 RX11) (hr : meth.sig.returnType = some .int) {R : Int32 × St} {n : Nat} : ∀ (st : St) (v1 : Int32) (v2 : Int32) (w0 : Int32) (H : Heap) (locs : List Loc) (ls : Array Slot), Wd EC 65 X s.heap st H locs → lv_has ls 4 [(0, .ref (xq X 0)), (1, .int v1), (2, .int v2)] → fX11_ears_19 n st v1 v2 w0 = some R → W p l e { frames := 3, cells := 0, slots := 0, locals := 70 } s m args below meth c H locs 0 0 (QI EC 65 X R.1 R.2 below args s) (F0 m 19 ls [.int w0]) := by
  obtain ⟨hx, hb, hml, hown, hts⟩ := id C.1
  intro st v1 v2 w0 H locs ls  hw hl hf
  unfold fX11_ears_19 at hf
  refine lv_istore_n (lv' := [(3, .int w0), (0, .ref (xq X 0)), (1, .int v1), (2, .int v2)]) hx hb dX11_ears_19 rfl hl (by decide) rfl (fun ls hl => ?_)
  refine lv_iload_n hx hb dX11_ears_20 rfl (lv_at hl 0 rfl) ?_
  refine lv_if_eq (tgt := 26) hx hb dX11_ears_21 (by decide) (fun c4 => ?_) (fun c4 => ?_)
  · replace hf := ite_t hf c4
    refine lv_aload_n hx hb dX11_ears_26 rfl (lv_at hl 1 rfl) ?_
    refine w_get (T := TX11) C hw (by decide) 6 kf_X11_60 (EC_0 X _ _) rfl inA11 (by decide) rfl dX11_ears_27 ?_
    refine lv_aload_n hx hb dX11_ears_30 rfl (lv_at hl 1 rfl) ?_
    refine w_get (T := TX11) C hw (by decide) 13 kf_X11_98 (EC_0 X _ _) rfl inA11 (by decide) rfl dX11_ears_31 ?_
    refine lv_iload_n hx hb dX11_ears_34 rfl (lv_at hl 2 rfl) ?_
    obtain ⟨h5, hf⟩ := gd_some hf
    refine w_aald (k' := (53 + 2 * v1.toNatClampNeg)) C hw (by decide) (EC_52 X _ _) rfl rfl h5 rfl dX11_ears_35 ?_
    obtain ⟨r6, k7, hf⟩ := bd_some hf
    refine w_goV hw (w_runV (rest := []) C hw (zX8_listen _ _ n st v1.toNatClampNeg (inB_lt h5) r6 k7) (by decide) (EC_36 X _ _) rfl km_X11_316 ki_yX8_listen kv_X8_listen kz_X8 kc_X8_listen rfl ok_yX8_listen ⟨Nat.le_of_ble_eq_true rfl, Nat.le_of_ble_eq_true rfl⟩ rfl rfl rfl rfl hl.1 (Nat.le_of_ble_eq_true rfl) dX11_ears_36 ⟨Nat.zero_le _, Nat.zero_le _⟩) (fun H locs hw => ?_)
    refine lv_iload_n hx hb dX11_ears_39 rfl (lv_at hl 3 rfl) ?_
    refine lv_if_ne (tgt := 51) hx hb dX11_ears_40 (by decide) (fun c8 => ?_) (fun c8 => ?_)
    · replace hf := ite_f hf c8
      refine lv_iload_n hx hb dX11_ears_51 rfl (lv_at hl 3 rfl) ?_
      refine lv_iconst (v := 1) hx hb dX11_ears_52 (by decide) ?_
      refine lv_icmp_ne (tgt := 66) hx hb dX11_ears_53 (by decide) (fun c9 => ?_) (fun c9 => ?_)
      · replace hf := ite_f hf c9
        refine lv_aload_n hx hb dX11_ears_66 rfl (lv_at hl 1 rfl) ?_
        refine w_get (T := TX11) C hw (by decide) 6 kf_X11_60 (EC_0 X _ _) rfl inA11 (by decide) rfl dX11_ears_67 ?_
        refine w_get (T := TX8) C hw (by decide) 3 kf_X11_319 (EC_36 X _ _) rfl inA8 (by decide) rfl dX11_ears_70 ?_
        exact w_iret C hw hr (so2 hf).1 (so2 hf).2 dX11_ears_73
      · replace hf := ite_t hf c9
        refine lv_aload_n hx hb dX11_ears_56 rfl (lv_at hl 1 rfl) ?_
        refine w_get (T := TX11) C hw (by decide) 6 kf_X11_60 (EC_0 X _ _) rfl inA11 (by decide) rfl dX11_ears_57 ?_
        refine w_get (T := TX8) C hw (by decide) 1 kf_X11_309 (EC_36 X _ _) rfl inA8 (by decide) rfl dX11_ears_60 ?_
        refine lv_goto (tgt := 73) hx hb dX11_ears_63 (by decide) ?_
        exact w_iret C hw hr (so2 hf).1 (so2 hf).2 dX11_ears_73
    · replace hf := ite_t hf c8
      refine lv_aload_n hx hb dX11_ears_43 rfl (lv_at hl 1 rfl) ?_
      refine w_get (T := TX11) C hw (by decide) 6 kf_X11_60 (EC_0 X _ _) rfl inA11 (by decide) rfl dX11_ears_44 ?_
      refine w_get (T := TX8) C hw (by decide) 0 kf_X11_308 (EC_36 X _ _) rfl inA8 (by decide) rfl dX11_ears_47 ?_
      exact w_iret C hw hr (so2 hf).1 (so2 hf).2 dX11_ears_50
  · replace hf := ite_f hf c4
    refine lv_iload_n hx hb dX11_ears_24 rfl (lv_at hl 0 rfl) ?_
    exact w_iret C hw hr (so2 hf).1 (so2 hf).2 dX11_ears_25
def fX11_ears (n : Nat) (st : St) (a1 : Int32) (a2 : Int32) : Option (Int32 × St) := if bI (fX11_isWithin a2 (0 : Int32) (2 : Int32)) = 0 then (fX11_ears_19 n st a1 a2 (-1 : Int32)) else ((fX11_refusalOfRow st a1 (1 : Int32)).bind (fun r2 => fX11_ears_19 n st a1 a2 r2))
set_option maxHeartbeats 4000000 in
theorem zX11_ears (l : Launch) (X : WX) (n : Nat) (st : St) (a1 : Int32) (a2 : Int32) (R : Int32 × St) (hf : fX11_ears n st a1 a2 = some R) : CtI l yX11_ears cX11_ears 4 .int ({ frames := 3, cells := 0, slots := 0, locals := 70 }) EC 65 X [.ref (xq X 0), .int a1, .int a2] st R.1 R.2 := by
  refine ct_in (own := RX11) (by decide +kernel) rfl (Nat.le_of_ble_eq_true rfl) (fun p e s m below meth c C hr hw ls hl => ?_)
  obtain ⟨hx, hb, hml, hown, hts⟩ := id C.1
  have hl : lv_has ls 4 [(0, .ref (xq X 0)), (1, .int a1), (2, .int a2)] := hl
  unfold fX11_ears at hf
  refine lv_iload_n hx hb dX11_ears_0 rfl (lv_at hl 2 rfl) ?_
  refine lv_iconst (v := 0) hx hb dX11_ears_1 (by decide) ?_
  refine lv_iconst (v := 2) hx hb dX11_ears_2 (by decide) ?_
  refine w_goI hw (w_runS (rest := []) C hw (zX11_isWithin _ _ st a2 (0 : Int32) (2 : Int32)) km_X11_117 kt_yX11_isWithin kz_X11 kc_X11_isWithin ok_yX11_isWithin ⟨Nat.le_of_ble_eq_true rfl, Nat.le_of_ble_eq_true rfl⟩ rfl rfl rfl rfl hl.1 (Nat.le_of_ble_eq_true rfl) dX11_ears_3 ⟨Nat.zero_le _, Nat.zero_le _⟩) (fun H locs hw => ?_)
  refine lv_if_eq (tgt := 18) hx hb dX11_ears_6 (by decide) (fun c1 => ?_) (fun c1 => ?_)
  · replace hf := ite_t hf c1
    refine lv_iconst (v := -1) hx hb dX11_ears_18 (by decide) ?_
    exact tX11_ears_19 C hr st a1 a2 (-1 : Int32) _ _ _ hw (lv_sub hl [0, 1, 2] rfl) hf
  · replace hf := ite_f hf c1
    refine lv_aload_n hx hb dX11_ears_9 rfl (lv_at hl 0 rfl) ?_
    refine lv_iload_n hx hb dX11_ears_10 rfl (lv_at hl 1 rfl) ?_
    refine lv_iconst (v := 1) hx hb dX11_ears_11 (by decide) ?_
    obtain ⟨r2, k3, hf⟩ := bd_some hf
    refine w_goI hw (w_runV (rest := []) C hw (zX11_refusalOfRow _ _ st a1 (1 : Int32) r2 k3) (by decide) (EC_0 X _ _) rfl km_X11_302 ki_yX11_refusalOfRow kv_X11_refusalOfRow kz_X11 kc_X11_refusalOfRow rfl ok_yX11_refusalOfRow ⟨Nat.le_of_ble_eq_true rfl, Nat.le_of_ble_eq_true rfl⟩ rfl rfl rfl rfl hl.1 (Nat.le_of_ble_eq_true rfl) dX11_ears_12 ⟨Nat.zero_le _, Nat.zero_le _⟩) (fun H locs hw => ?_)
    refine lv_goto (tgt := 19) hx hb dX11_ears_15 (by decide) ?_
    exact tX11_ears_19 C hr st a1 a2 r2 _ _ _ hw (lv_sub hl [0, 1, 2] rfl) hf
theorem dX11_judge_0 : decode cX11_judge 0 = .ok (.aload_n 0, 1) := by decide +kernel
theorem dX11_judge_1 : decode cX11_judge 1 = .ok (.iload_n 1, 1) := by decide +kernel
theorem dX11_judge_2 : decode cX11_judge 2 = .ok (.iconst 0, 1) := by decide +kernel
theorem dX11_judge_3 : decode cX11_judge 3 = .ok (.invokevirtual 302, 3) := by decide +kernel
theorem dX11_judge_6 : decode cX11_judge 6 = .ok (.istore_n 2, 1) := by decide +kernel
theorem dX11_judge_7 : decode cX11_judge 7 = .ok (.iload_n 2, 1) := by decide +kernel
theorem dX11_judge_8 : decode cX11_judge 8 = .ok (.ifCond .eq 7, 3) := by decide +kernel
theorem dX11_judge_11 : decode cX11_judge 11 = .ok (.iload_n 2, 1) := by decide +kernel
theorem dX11_judge_12 : decode cX11_judge 12 = .ok (.goto 16, 3) := by decide +kernel
theorem dX11_judge_15 : decode cX11_judge 15 = .ok (.aload_n 0, 1) := by decide +kernel
theorem dX11_judge_16 : decode cX11_judge 16 = .ok (.getfield 51, 3) := by decide +kernel
theorem dX11_judge_19 : decode cX11_judge 19 = .ok (.aload_n 0, 1) := by decide +kernel
theorem dX11_judge_20 : decode cX11_judge 20 = .ok (.getfield 98, 3) := by decide +kernel
theorem dX11_judge_23 : decode cX11_judge 23 = .ok (.iload_n 1, 1) := by decide +kernel
theorem dX11_judge_24 : decode cX11_judge 24 = .ok (.aaload, 1) := by decide +kernel
theorem dX11_judge_25 : decode cX11_judge 25 = .ok (.invokevirtual 322, 3) := by decide +kernel
theorem dX11_judge_28 : decode cX11_judge 28 = .ok (.ireturn, 1) := by decide +kernel
theorem ok_yX11_judge : yOk yX11_judge 1 := ⟨by decide +kernel, by decide +kernel, by decide +kernel⟩
def fX11_judge (n : Nat) (st : St) (a1 : Int32) : Option (Int32 × St) := (fX11_refusalOfRow st a1 (0 : Int32)).bind (fun r1 => if r1 = 0 then (gd (inB a1 6) ((fX10_firstUnlike n st a1.toNatClampNeg).bind (fun r5 => some (r5.1, r5.2)))) else (some (r1, st)))
set_option maxHeartbeats 4000000 in
theorem zX11_judge (l : Launch) (X : WX) (n : Nat) (st : St) (a1 : Int32) (R : Int32 × St) (hf : fX11_judge n st a1 = some R) : CtI l yX11_judge cX11_judge 3 .int ({ frames := 6, cells := 0, slots := 0, locals := 147 }) EC 65 X [.ref (xq X 0), .int a1] st R.1 R.2 := by
  refine ct_in (own := RX11) (by decide +kernel) rfl (Nat.le_of_ble_eq_true rfl) (fun p e s m below meth c C hr hw ls hl => ?_)
  obtain ⟨hx, hb, hml, hown, hts⟩ := id C.1
  have hl : lv_has ls 3 [(0, .ref (xq X 0)), (1, .int a1)] := hl
  unfold fX11_judge at hf
  refine lv_aload_n hx hb dX11_judge_0 rfl (lv_at hl 0 rfl) ?_
  refine lv_iload_n hx hb dX11_judge_1 rfl (lv_at hl 1 rfl) ?_
  refine lv_iconst (v := 0) hx hb dX11_judge_2 (by decide) ?_
  obtain ⟨r1, k2, hf⟩ := bd_some hf
  refine w_goI hw (w_runV (rest := []) C hw (zX11_refusalOfRow _ _ st a1 (0 : Int32) r1 k2) (by decide) (EC_0 X _ _) rfl km_X11_302 ki_yX11_refusalOfRow kv_X11_refusalOfRow kz_X11 kc_X11_refusalOfRow rfl ok_yX11_refusalOfRow ⟨Nat.le_of_ble_eq_true rfl, Nat.le_of_ble_eq_true rfl⟩ rfl rfl rfl rfl hl.1 (Nat.le_of_ble_eq_true rfl) dX11_judge_3 ⟨Nat.zero_le _, Nat.zero_le _⟩) (fun H locs hw => ?_)
  refine lv_istore_n (lv' := [(2, .int r1), (0, .ref (xq X 0)), (1, .int a1)]) hx hb dX11_judge_6 rfl hl (by decide) rfl (fun ls hl => ?_)
  refine lv_iload_n hx hb dX11_judge_7 rfl (lv_at hl 0 rfl) ?_
  refine lv_if_eq (tgt := 15) hx hb dX11_judge_8 (by decide) (fun c3 => ?_) (fun c3 => ?_)
  · replace hf := ite_t hf c3
    refine lv_aload_n hx hb dX11_judge_15 rfl (lv_at hl 1 rfl) ?_
    refine w_get (T := TX11) C hw (by decide) 5 kf_X11_51 (EC_0 X _ _) rfl inA11 (by decide) rfl dX11_judge_16 ?_
    refine lv_aload_n hx hb dX11_judge_19 rfl (lv_at hl 1 rfl) ?_
    refine w_get (T := TX11) C hw (by decide) 13 kf_X11_98 (EC_0 X _ _) rfl inA11 (by decide) rfl dX11_judge_20 ?_
    refine lv_iload_n hx hb dX11_judge_23 rfl (lv_at hl 2 rfl) ?_
    obtain ⟨h4, hf⟩ := gd_some hf
    refine w_aald (k' := (53 + 2 * a1.toNatClampNeg)) C hw (by decide) (EC_52 X _ _) rfl rfl h4 rfl dX11_judge_24 ?_
    obtain ⟨r5, k6, hf⟩ := bd_some hf
    refine w_goI hw (w_runV (rest := []) C hw (zX10_firstUnlike _ _ n st a1.toNatClampNeg (inB_lt h4) r5 k6) (by decide) (EC_32 X _ _) rfl km_X11_322 ki_yX10_firstUnlike kv_X10_firstUnlike kz_X10 kc_X10_firstUnlike rfl ok_yX10_firstUnlike ⟨Nat.le_of_ble_eq_true rfl, Nat.le_of_ble_eq_true rfl⟩ rfl rfl rfl rfl hl.1 (Nat.le_of_ble_eq_true rfl) dX11_judge_25 ⟨Nat.zero_le _, Nat.zero_le _⟩) (fun H locs hw => ?_)
    exact w_iret C hw hr (so2 hf).1 (so2 hf).2 dX11_judge_28
  · replace hf := ite_f hf c3
    refine lv_iload_n hx hb dX11_judge_11 rfl (lv_at hl 0 rfl) ?_
    refine lv_goto (tgt := 28) hx hb dX11_judge_12 (by decide) ?_
    exact w_iret C hw hr (so2 hf).1 (so2 hf).2 dX11_judge_28
theorem dX11_whoseCry_0 : decode cX11_whoseCry 0 = .ok (.iload_n 2, 1) := by decide +kernel
theorem dX11_whoseCry_1 : decode cX11_whoseCry 1 = .ok (.ifCond .lt 33, 3) := by decide +kernel
theorem dX11_whoseCry_4 : decode cX11_whoseCry 4 = .ok (.iload_n 2, 1) := by decide +kernel
theorem dX11_whoseCry_5 : decode cX11_whoseCry 5 = .ok (.bipush 100, 2) := by decide +kernel
theorem dX11_whoseCry_7 : decode cX11_whoseCry 7 = .ok (.idiv, 1) := by decide +kernel
theorem dX11_whoseCry_8 : decode cX11_whoseCry 8 = .ok (.invokestatic 151, 3) := by decide +kernel
theorem dX11_whoseCry_11 : decode cX11_whoseCry 11 = .ok (.ifCond .eq 23, 3) := by decide +kernel
theorem dX11_whoseCry_14 : decode cX11_whoseCry 14 = .ok (.iload_n 2, 1) := by decide +kernel
theorem dX11_whoseCry_15 : decode cX11_whoseCry 15 = .ok (.bipush 10, 2) := by decide +kernel
theorem dX11_whoseCry_17 : decode cX11_whoseCry 17 = .ok (.idiv, 1) := by decide +kernel
theorem dX11_whoseCry_18 : decode cX11_whoseCry 18 = .ok (.bipush 10, 2) := by decide +kernel
theorem dX11_whoseCry_20 : decode cX11_whoseCry 20 = .ok (.irem, 1) := by decide +kernel
theorem dX11_whoseCry_21 : decode cX11_whoseCry 21 = .ok (.getstatic 167, 3) := by decide +kernel
theorem dX11_whoseCry_24 : decode cX11_whoseCry 24 = .ok (.bipush 12, 2) := by decide +kernel
theorem dX11_whoseCry_26 : decode cX11_whoseCry 26 = .ok (.iaload, 1) := by decide +kernel
theorem dX11_whoseCry_27 : decode cX11_whoseCry 27 = .ok (.if_icmp .gt 7, 3) := by decide +kernel
theorem dX11_whoseCry_30 : decode cX11_whoseCry 30 = .ok (.iconst 1, 1) := by decide +kernel
theorem dX11_whoseCry_31 : decode cX11_whoseCry 31 = .ok (.goto 4, 3) := by decide +kernel
theorem dX11_whoseCry_34 : decode cX11_whoseCry 34 = .ok (.iconst 0, 1) := by decide +kernel
theorem dX11_whoseCry_35 : decode cX11_whoseCry 35 = .ok (.istore 4, 2) := by decide +kernel
theorem dX11_whoseCry_37 : decode cX11_whoseCry 37 = .ok (.iload 4, 2) := by decide +kernel
theorem dX11_whoseCry_39 : decode cX11_whoseCry 39 = .ok (.ifCond .eq 21, 3) := by decide +kernel
theorem dX11_whoseCry_42 : decode cX11_whoseCry 42 = .ok (.iload_n 3, 1) := by decide +kernel
theorem dX11_whoseCry_43 : decode cX11_whoseCry 43 = .ok (.iconst 0, 1) := by decide +kernel
theorem dX11_whoseCry_44 : decode cX11_whoseCry 44 = .ok (.iconst 1, 1) := by decide +kernel
theorem dX11_whoseCry_45 : decode cX11_whoseCry 45 = .ok (.invokestatic 117, 3) := by decide +kernel
theorem dX11_whoseCry_48 : decode cX11_whoseCry 48 = .ok (.ifCond .eq 12, 3) := by decide +kernel
theorem dX11_whoseCry_51 : decode cX11_whoseCry 51 = .ok (.aload_n 0, 1) := by decide +kernel
theorem dX11_whoseCry_52 : decode cX11_whoseCry 52 = .ok (.iload_n 1, 1) := by decide +kernel
theorem dX11_whoseCry_53 : decode cX11_whoseCry 53 = .ok (.iconst 0, 1) := by decide +kernel
theorem dX11_whoseCry_54 : decode cX11_whoseCry 54 = .ok (.invokevirtual 302, 3) := by decide +kernel
theorem dX11_whoseCry_57 : decode cX11_whoseCry 57 = .ok (.goto 4, 3) := by decide +kernel
theorem dX11_whoseCry_60 : decode cX11_whoseCry 60 = .ok (.iconst (-1), 1) := by decide +kernel
theorem dX11_whoseCry_61 : decode cX11_whoseCry 61 = .ok (.istore 5, 2) := by decide +kernel
theorem dX11_whoseCry_63 : decode cX11_whoseCry 63 = .ok (.iload 5, 2) := by decide +kernel
theorem dX11_whoseCry_65 : decode cX11_whoseCry 65 = .ok (.ifCond .eq 6, 3) := by decide +kernel
theorem dX11_whoseCry_68 : decode cX11_whoseCry 68 = .ok (.iload 5, 2) := by decide +kernel
theorem dX11_whoseCry_70 : decode cX11_whoseCry 70 = .ok (.ireturn, 1) := by decide +kernel
theorem dX11_whoseCry_71 : decode cX11_whoseCry 71 = .ok (.aload_n 0, 1) := by decide +kernel
theorem dX11_whoseCry_72 : decode cX11_whoseCry 72 = .ok (.getfield 10, 3) := by decide +kernel
theorem dX11_whoseCry_75 : decode cX11_whoseCry 75 = .ok (.getfield 154, 3) := by decide +kernel
theorem dX11_whoseCry_78 : decode cX11_whoseCry 78 = .ok (.bipush 12, 2) := by decide +kernel
theorem dX11_whoseCry_80 : decode cX11_whoseCry 80 = .ok (.if_icmp .ne 6, 3) := by decide +kernel
theorem dX11_whoseCry_83 : decode cX11_whoseCry 83 = .ok (.bipush (-5), 2) := by decide +kernel
theorem dX11_whoseCry_85 : decode cX11_whoseCry 85 = .ok (.ireturn, 1) := by decide +kernel
theorem dX11_whoseCry_86 : decode cX11_whoseCry 86 = .ok (.aload_n 0, 1) := by decide +kernel
theorem dX11_whoseCry_87 : decode cX11_whoseCry 87 = .ok (.getfield 51, 3) := by decide +kernel
theorem dX11_whoseCry_90 : decode cX11_whoseCry 90 = .ok (.aload_n 0, 1) := by decide +kernel
theorem dX11_whoseCry_91 : decode cX11_whoseCry 91 = .ok (.getfield 98, 3) := by decide +kernel
theorem dX11_whoseCry_94 : decode cX11_whoseCry 94 = .ok (.iload_n 1, 1) := by decide +kernel
theorem dX11_whoseCry_95 : decode cX11_whoseCry 95 = .ok (.aaload, 1) := by decide +kernel
theorem dX11_whoseCry_96 : decode cX11_whoseCry 96 = .ok (.iload_n 2, 1) := by decide +kernel
theorem dX11_whoseCry_97 : decode cX11_whoseCry 97 = .ok (.bipush 100, 2) := by decide +kernel
theorem dX11_whoseCry_99 : decode cX11_whoseCry 99 = .ok (.idiv, 1) := by decide +kernel
theorem dX11_whoseCry_100 : decode cX11_whoseCry 100 = .ok (.iload_n 2, 1) := by decide +kernel
theorem dX11_whoseCry_101 : decode cX11_whoseCry 101 = .ok (.bipush 10, 2) := by decide +kernel
theorem dX11_whoseCry_103 : decode cX11_whoseCry 103 = .ok (.idiv, 1) := by decide +kernel
theorem dX11_whoseCry_104 : decode cX11_whoseCry 104 = .ok (.bipush 10, 2) := by decide +kernel
theorem dX11_whoseCry_106 : decode cX11_whoseCry 106 = .ok (.irem, 1) := by decide +kernel
theorem dX11_whoseCry_107 : decode cX11_whoseCry 107 = .ok (.iload_n 2, 1) := by decide +kernel
theorem dX11_whoseCry_108 : decode cX11_whoseCry 108 = .ok (.bipush 10, 2) := by decide +kernel
theorem dX11_whoseCry_110 : decode cX11_whoseCry 110 = .ok (.irem, 1) := by decide +kernel
theorem dX11_whoseCry_111 : decode cX11_whoseCry 111 = .ok (.invokevirtual 326, 3) := by decide +kernel
theorem dX11_whoseCry_114 : decode cX11_whoseCry 114 = .ok (.iload_n 3, 1) := by decide +kernel
theorem dX11_whoseCry_115 : decode cX11_whoseCry 115 = .ok (.ifCond .ne 13, 3) := by decide +kernel
theorem dX11_whoseCry_118 : decode cX11_whoseCry 118 = .ok (.aload_n 0, 1) := by decide +kernel
theorem dX11_whoseCry_119 : decode cX11_whoseCry 119 = .ok (.getfield 51, 3) := by decide +kernel
theorem dX11_whoseCry_122 : decode cX11_whoseCry 122 = .ok (.getfield 330, 3) := by decide +kernel
theorem dX11_whoseCry_125 : decode cX11_whoseCry 125 = .ok (.goto 10, 3) := by decide +kernel
theorem dX11_whoseCry_128 : decode cX11_whoseCry 128 = .ok (.aload_n 0, 1) := by decide +kernel
theorem dX11_whoseCry_129 : decode cX11_whoseCry 129 = .ok (.getfield 51, 3) := by decide +kernel
theorem dX11_whoseCry_132 : decode cX11_whoseCry 132 = .ok (.getfield 333, 3) := by decide +kernel
theorem dX11_whoseCry_135 : decode cX11_whoseCry 135 = .ok (.ireturn, 1) := by decide +kernel
theorem ok_yX11_whoseCry : yOk yX11_whoseCry 3 := ⟨by decide +kernel, by decide +kernel, by decide +kernel⟩
def fX11_whoseCry_61 (n : Nat) (st : St) (v1 : Int32) (v2 : Int32) (v3 : Int32) (w0 : Int32) : Option (Int32 × St) := if w0 = 0 then (if gI st 1 3 = (12 : Int32) then (some ((-5 : Int32), st)) else (gd (inB v1 6) ((fX10_seekMinutes n st v1.toNatClampNeg (v2 / (100 : Int32)) (rmI (v2 / (10 : Int32)) (10 : Int32)) (rmI v2 (10 : Int32))).bind (fun r11 => if v3 = 0 then (some ((gI r11 32 0), r11)) else (some ((gI r11 32 1), r11)))))) else (some (w0, st))
set_option maxHeartbeats 4000000 in
theorem tX11_whoseCry_61 {p : Program} {l : Launch} {e : Env} {s : State} {m : MethodId} {args : Array Value} {below : List Frame} {meth : Method} {c : Code} {X : WX} (C : Amb 65 X p s m args meth c cX11_whoseCry 6 RX11) (hr : meth.sig.returnType = some .int) {R : Int32 × St} {n : Nat} : ∀ (st : St) (v1 : Int32) (v2 : Int32) (v3 : Int32) (w0 : Int32) (H : Heap) (locs : List Loc) (ls : Array Slot), Wd EC 65 X s.heap st H locs → lv_has ls 6 [(0, .ref (xq X 0)), (1, .int v1), (2, .int v2), (3, .int v3)] → fX11_whoseCry_61 n st v1 v2 v3 w0 = some R → W p l e { frames := 6, cells := 0, slots := 0, locals := 150 } s m args below meth c H locs 0 0 (QI EC 65 X R.1 R.2 below args s) (F0 m 61 ls [.int w0]) := by
  obtain ⟨hx, hb, hml, hown, hts⟩ := id C.1
  intro st v1 v2 v3 w0 H locs ls  hw hl hf
  unfold fX11_whoseCry_61 at hf
  refine lv_istore (lv' := [(5, .int w0), (0, .ref (xq X 0)), (1, .int v1), (2, .int v2), (3, .int v3)]) hx hb dX11_whoseCry_61 hl (by decide) rfl (fun ls hl => ?_)
  refine lv_iload hx hb dX11_whoseCry_63 (lv_at hl 0 rfl) ?_
  refine lv_if_eq (tgt := 71) hx hb dX11_whoseCry_65 (by decide) (fun c8 => ?_) (fun c8 => ?_)
  · replace hf := ite_t hf c8
    refine lv_aload_n hx hb dX11_whoseCry_71 rfl (lv_at hl 1 rfl) ?_
    refine w_get (T := TX11) C hw (by decide) 0 kf_X11_10 (EC_0 X _ _) rfl inA11 (by decide) rfl dX11_whoseCry_72 ?_
    refine w_get (T := TX3) C hw (by decide) 3 kf_X11_154 (EC_1 X _ _) rfl inA3 (by decide) rfl dX11_whoseCry_75 ?_
    refine lv_bipush (v := 12) hx hb dX11_whoseCry_78 (by decide) ?_
    refine lv_icmp_ne (tgt := 86) hx hb dX11_whoseCry_80 (by decide) (fun c9 => ?_) (fun c9 => ?_)
    · replace hf := ite_f hf c9
      refine lv_aload_n hx hb dX11_whoseCry_86 rfl (lv_at hl 1 rfl) ?_
      refine w_get (T := TX11) C hw (by decide) 5 kf_X11_51 (EC_0 X _ _) rfl inA11 (by decide) rfl dX11_whoseCry_87 ?_
      refine lv_aload_n hx hb dX11_whoseCry_90 rfl (lv_at hl 1 rfl) ?_
      refine w_get (T := TX11) C hw (by decide) 13 kf_X11_98 (EC_0 X _ _) rfl inA11 (by decide) rfl dX11_whoseCry_91 ?_
      refine lv_iload_n hx hb dX11_whoseCry_94 rfl (lv_at hl 2 rfl) ?_
      obtain ⟨h10, hf⟩ := gd_some hf
      refine w_aald (k' := (53 + 2 * v1.toNatClampNeg)) C hw (by decide) (EC_52 X _ _) rfl rfl h10 rfl dX11_whoseCry_95 ?_
      refine lv_iload_n hx hb dX11_whoseCry_96 rfl (lv_at hl 3 rfl) ?_
      refine lv_bipush (v := 100) hx hb dX11_whoseCry_97 (by decide) ?_
      refine lv_idiv hx hb dX11_whoseCry_99 (by decide) ?_
      refine lv_iload_n hx hb dX11_whoseCry_100 rfl (lv_at hl 3 rfl) ?_
      refine lv_bipush (v := 10) hx hb dX11_whoseCry_101 (by decide) ?_
      refine lv_idiv hx hb dX11_whoseCry_103 (by decide) ?_
      refine lv_bipush (v := 10) hx hb dX11_whoseCry_104 (by decide) ?_
      refine w_irem C (by decide) dX11_whoseCry_106 ?_
      refine lv_iload_n hx hb dX11_whoseCry_107 rfl (lv_at hl 3 rfl) ?_
      refine lv_bipush (v := 10) hx hb dX11_whoseCry_108 (by decide) ?_
      refine w_irem C (by decide) dX11_whoseCry_110 ?_
      obtain ⟨r11, k12, hf⟩ := bd_some hf
      refine w_goV hw (w_runV (rest := []) C hw (zX10_seekMinutes _ _ n st v1.toNatClampNeg (v2 / (100 : Int32)) (rmI (v2 / (10 : Int32)) (10 : Int32)) (rmI v2 (10 : Int32)) (inB_lt h10) r11 k12) (by decide) (EC_32 X _ _) rfl km_X11_326 ki_yX10_seekMinutes kv_X10_seekMinutes kz_X10 kc_X10_seekMinutes rfl ok_yX10_seekMinutes ⟨Nat.le_of_ble_eq_true rfl, Nat.le_of_ble_eq_true rfl⟩ rfl rfl rfl rfl hl.1 (Nat.le_of_ble_eq_true rfl) dX11_whoseCry_111 ⟨Nat.zero_le _, Nat.zero_le _⟩) (fun H locs hw => ?_)
      refine lv_iload_n hx hb dX11_whoseCry_114 rfl (lv_at hl 4 rfl) ?_
      refine lv_if_ne (tgt := 128) hx hb dX11_whoseCry_115 (by decide) (fun c13 => ?_) (fun c13 => ?_)
      · replace hf := ite_f hf c13
        refine lv_aload_n hx hb dX11_whoseCry_128 rfl (lv_at hl 1 rfl) ?_
        refine w_get (T := TX11) C hw (by decide) 5 kf_X11_51 (EC_0 X _ _) rfl inA11 (by decide) rfl dX11_whoseCry_129 ?_
        refine w_get (T := TX10) C hw (by decide) 1 kf_X11_333 (EC_32 X _ _) rfl inA10 (by decide) rfl dX11_whoseCry_132 ?_
        exact w_iret C hw hr (so2 hf).1 (so2 hf).2 dX11_whoseCry_135
      · replace hf := ite_t hf c13
        refine lv_aload_n hx hb dX11_whoseCry_118 rfl (lv_at hl 1 rfl) ?_
        refine w_get (T := TX11) C hw (by decide) 5 kf_X11_51 (EC_0 X _ _) rfl inA11 (by decide) rfl dX11_whoseCry_119 ?_
        refine w_get (T := TX10) C hw (by decide) 0 kf_X11_330 (EC_32 X _ _) rfl inA10 (by decide) rfl dX11_whoseCry_122 ?_
        refine lv_goto (tgt := 135) hx hb dX11_whoseCry_125 (by decide) ?_
        exact w_iret C hw hr (so2 hf).1 (so2 hf).2 dX11_whoseCry_135
    · replace hf := ite_t hf c9
      refine lv_bipush (v := -5) hx hb dX11_whoseCry_83 (by decide) ?_
      exact w_iret C hw hr (so2 hf).1 (so2 hf).2 dX11_whoseCry_85
  · replace hf := ite_f hf c8
    refine lv_iload hx hb dX11_whoseCry_68 (lv_at hl 0 rfl) ?_
    exact w_iret C hw hr (so2 hf).1 (so2 hf).2 dX11_whoseCry_70
def fX11_whoseCry_60 (n : Nat) (st : St) (v1 : Int32) (v2 : Int32) (v3 : Int32) : Option (Int32 × St) := fX11_whoseCry_61 n st v1 v2 v3 (-1 : Int32)
set_option maxHeartbeats 4000000 in
theorem tX11_whoseCry_60 {p : Program} {l : Launch} {e : Env} {s : State} {m : MethodId} {args : Array Value} {below : List Frame} {meth : Method} {c : Code} {X : WX} (C : Amb 65 X p s m args meth c cX11_whoseCry 6 RX11) (hr : meth.sig.returnType = some .int) {R : Int32 × St} {n : Nat} : ∀ (st : St) (v1 : Int32) (v2 : Int32) (v3 : Int32) (H : Heap) (locs : List Loc) (ls : Array Slot), Wd EC 65 X s.heap st H locs → lv_has ls 6 [(0, .ref (xq X 0)), (1, .int v1), (2, .int v2), (3, .int v3)] → fX11_whoseCry_60 n st v1 v2 v3 = some R → W p l e { frames := 6, cells := 0, slots := 0, locals := 150 } s m args below meth c H locs 0 0 (QI EC 65 X R.1 R.2 below args s) (F0 m 60 ls []) := by
  obtain ⟨hx, hb, hml, hown, hts⟩ := id C.1
  intro st v1 v2 v3 H locs ls  hw hl hf
  unfold fX11_whoseCry_60 at hf
  refine lv_iconst (v := -1) hx hb dX11_whoseCry_60 (by decide) ?_
  exact tX11_whoseCry_61 C hr st v1 v2 v3 (-1 : Int32) _ _ _ hw (lv_sub hl [0, 1, 2, 3] rfl) hf
def fX11_whoseCry_35 (n : Nat) (st : St) (v1 : Int32) (v2 : Int32) (v3 : Int32) (w0 : Int32) : Option (Int32 × St) := if w0 = 0 then (fX11_whoseCry_60 n st v1 v2 v3) else (if bI (fX11_isWithin v3 (0 : Int32) (1 : Int32)) = 0 then (fX11_whoseCry_60 n st v1 v2 v3) else ((fX11_refusalOfRow st v1 (0 : Int32)).bind (fun r6 => fX11_whoseCry_61 n st v1 v2 v3 r6)))
set_option maxHeartbeats 4000000 in
theorem tX11_whoseCry_35 {p : Program} {l : Launch} {e : Env} {s : State} {m : MethodId} {args : Array Value} {below : List Frame} {meth : Method} {c : Code} {X : WX} (C : Amb 65 X p s m args meth c cX11_whoseCry 6 RX11) (hr : meth.sig.returnType = some .int) {R : Int32 × St} {n : Nat} : ∀ (st : St) (v1 : Int32) (v2 : Int32) (v3 : Int32) (w0 : Int32) (H : Heap) (locs : List Loc) (ls : Array Slot), Wd EC 65 X s.heap st H locs → lv_has ls 6 [(0, .ref (xq X 0)), (1, .int v1), (2, .int v2), (3, .int v3)] → fX11_whoseCry_35 n st v1 v2 v3 w0 = some R → W p l e { frames := 6, cells := 0, slots := 0, locals := 150 } s m args below meth c H locs 0 0 (QI EC 65 X R.1 R.2 below args s) (F0 m 35 ls [.int w0]) := by
  obtain ⟨hx, hb, hml, hown, hts⟩ := id C.1
  intro st v1 v2 v3 w0 H locs ls  hw hl hf
  unfold fX11_whoseCry_35 at hf
  refine lv_istore (lv' := [(4, .int w0), (0, .ref (xq X 0)), (1, .int v1), (2, .int v2), (3, .int v3)]) hx hb dX11_whoseCry_35 hl (by decide) rfl (fun ls hl => ?_)
  refine lv_iload hx hb dX11_whoseCry_37 (lv_at hl 0 rfl) ?_
  refine lv_if_eq (tgt := 60) hx hb dX11_whoseCry_39 (by decide) (fun c4 => ?_) (fun c4 => ?_)
  · replace hf := ite_t hf c4
    exact tX11_whoseCry_60 C hr st v1 v2 v3 _ _ _ hw (lv_sub hl [1, 2, 3, 4] rfl) hf
  · replace hf := ite_f hf c4
    refine lv_iload_n hx hb dX11_whoseCry_42 rfl (lv_at hl 4 rfl) ?_
    refine lv_iconst (v := 0) hx hb dX11_whoseCry_43 (by decide) ?_
    refine lv_iconst (v := 1) hx hb dX11_whoseCry_44 (by decide) ?_
    refine w_goI hw (w_runS (rest := []) C hw (zX11_isWithin _ _ st v3 (0 : Int32) (1 : Int32)) km_X11_117 kt_yX11_isWithin kz_X11 kc_X11_isWithin ok_yX11_isWithin ⟨Nat.le_of_ble_eq_true rfl, Nat.le_of_ble_eq_true rfl⟩ rfl rfl rfl rfl hl.1 (Nat.le_of_ble_eq_true rfl) dX11_whoseCry_45 ⟨Nat.zero_le _, Nat.zero_le _⟩) (fun H locs hw => ?_)
    refine lv_if_eq (tgt := 60) hx hb dX11_whoseCry_48 (by decide) (fun c5 => ?_) (fun c5 => ?_)
    · replace hf := ite_t hf c5
      exact tX11_whoseCry_60 C hr st v1 v2 v3 _ _ _ hw (lv_sub hl [1, 2, 3, 4] rfl) hf
    · replace hf := ite_f hf c5
      refine lv_aload_n hx hb dX11_whoseCry_51 rfl (lv_at hl 1 rfl) ?_
      refine lv_iload_n hx hb dX11_whoseCry_52 rfl (lv_at hl 2 rfl) ?_
      refine lv_iconst (v := 0) hx hb dX11_whoseCry_53 (by decide) ?_
      obtain ⟨r6, k7, hf⟩ := bd_some hf
      refine w_goI hw (w_runV (rest := []) C hw (zX11_refusalOfRow _ _ st v1 (0 : Int32) r6 k7) (by decide) (EC_0 X _ _) rfl km_X11_302 ki_yX11_refusalOfRow kv_X11_refusalOfRow kz_X11 kc_X11_refusalOfRow rfl ok_yX11_refusalOfRow ⟨Nat.le_of_ble_eq_true rfl, Nat.le_of_ble_eq_true rfl⟩ rfl rfl rfl rfl hl.1 (Nat.le_of_ble_eq_true rfl) dX11_whoseCry_54 ⟨Nat.zero_le _, Nat.zero_le _⟩) (fun H locs hw => ?_)
      refine lv_goto (tgt := 61) hx hb dX11_whoseCry_57 (by decide) ?_
      exact tX11_whoseCry_61 C hr st v1 v2 v3 r6 _ _ _ hw (lv_sub hl [1, 2, 3, 4] rfl) hf
def fX11_whoseCry_34 (n : Nat) (st : St) (v1 : Int32) (v2 : Int32) (v3 : Int32) : Option (Int32 × St) := fX11_whoseCry_35 n st v1 v2 v3 (0 : Int32)
set_option maxHeartbeats 4000000 in
theorem tX11_whoseCry_34 {p : Program} {l : Launch} {e : Env} {s : State} {m : MethodId} {args : Array Value} {below : List Frame} {meth : Method} {c : Code} {X : WX} (C : Amb 65 X p s m args meth c cX11_whoseCry 6 RX11) (hr : meth.sig.returnType = some .int) {R : Int32 × St} {n : Nat} : ∀ (st : St) (v1 : Int32) (v2 : Int32) (v3 : Int32) (H : Heap) (locs : List Loc) (ls : Array Slot), Wd EC 65 X s.heap st H locs → lv_has ls 6 [(0, .ref (xq X 0)), (1, .int v1), (2, .int v2), (3, .int v3)] → fX11_whoseCry_34 n st v1 v2 v3 = some R → W p l e { frames := 6, cells := 0, slots := 0, locals := 150 } s m args below meth c H locs 0 0 (QI EC 65 X R.1 R.2 below args s) (F0 m 34 ls []) := by
  obtain ⟨hx, hb, hml, hown, hts⟩ := id C.1
  intro st v1 v2 v3 H locs ls  hw hl hf
  unfold fX11_whoseCry_34 at hf
  refine lv_iconst (v := 0) hx hb dX11_whoseCry_34 (by decide) ?_
  exact tX11_whoseCry_35 C hr st v1 v2 v3 (0 : Int32) _ _ _ hw (lv_sub hl [0, 1, 2, 3] rfl) hf
def fX11_whoseCry (n : Nat) (st : St) (a1 : Int32) (a2 : Int32) (a3 : Int32) : Option (Int32 × St) := if a2 < 0 then (fX11_whoseCry_34 n st a1 a2 a3) else (if bI (fX11_isPerson (a2 / (100 : Int32))) = 0 then (fX11_whoseCry_34 n st a1 a2 a3) else (if tb tMOST 12 < rmI (a2 / (10 : Int32)) (10 : Int32) then (fX11_whoseCry_34 n st a1 a2 a3) else (fX11_whoseCry_35 n st a1 a2 a3 (1 : Int32))))
set_option maxHeartbeats 4000000 in
theorem zX11_whoseCry (l : Launch) (X : WX) (n : Nat) (st : St) (a1 : Int32) (a2 : Int32) (a3 : Int32) (R : Int32 × St) (hf : fX11_whoseCry n st a1 a2 a3 = some R) : CtI l yX11_whoseCry cX11_whoseCry 6 .int ({ frames := 6, cells := 0, slots := 0, locals := 150 }) EC 65 X [.ref (xq X 0), .int a1, .int a2, .int a3] st R.1 R.2 := by
  refine ct_in (own := RX11) (by decide +kernel) rfl (Nat.le_of_ble_eq_true rfl) (fun p e s m below meth c C hr hw ls hl => ?_)
  obtain ⟨hx, hb, hml, hown, hts⟩ := id C.1
  have hl : lv_has ls 6 [(0, .ref (xq X 0)), (1, .int a1), (2, .int a2), (3, .int a3)] := hl
  unfold fX11_whoseCry at hf
  refine lv_iload_n hx hb dX11_whoseCry_0 rfl (lv_at hl 2 rfl) ?_
  refine lv_if_lt (tgt := 34) hx hb dX11_whoseCry_1 (by decide) (fun c1 => ?_) (fun c1 => ?_)
  · replace hf := ite_t hf c1
    exact tX11_whoseCry_34 C hr st a1 a2 a3 _ _ _ hw (lv_sub hl [0, 1, 2, 3] rfl) hf
  · replace hf := ite_f hf c1
    refine lv_iload_n hx hb dX11_whoseCry_4 rfl (lv_at hl 2 rfl) ?_
    refine lv_bipush (v := 100) hx hb dX11_whoseCry_5 (by decide) ?_
    refine lv_idiv hx hb dX11_whoseCry_7 (by decide) ?_
    refine w_goI hw (w_runS (rest := []) C hw (zX11_isPerson _ _ st (a2 / (100 : Int32))) km_X11_151 kt_yX11_isPerson kz_X11 kc_X11_isPerson ok_yX11_isPerson ⟨Nat.le_of_ble_eq_true rfl, Nat.le_of_ble_eq_true rfl⟩ rfl rfl rfl rfl hl.1 (Nat.le_of_ble_eq_true rfl) dX11_whoseCry_8 ⟨Nat.zero_le _, Nat.zero_le _⟩) (fun H locs hw => ?_)
    refine lv_if_eq (tgt := 34) hx hb dX11_whoseCry_11 (by decide) (fun c2 => ?_) (fun c2 => ?_)
    · replace hf := ite_t hf c2
      exact tX11_whoseCry_34 C hr st a1 a2 a3 _ _ _ hw (lv_sub hl [0, 1, 2, 3] rfl) hf
    · replace hf := ite_f hf c2
      refine lv_iload_n hx hb dX11_whoseCry_14 rfl (lv_at hl 2 rfl) ?_
      refine lv_bipush (v := 10) hx hb dX11_whoseCry_15 (by decide) ?_
      refine lv_idiv hx hb dX11_whoseCry_17 (by decide) ?_
      refine lv_bipush (v := 10) hx hb dX11_whoseCry_18 (by decide) ?_
      refine w_irem C (by decide) dX11_whoseCry_20 ?_
      refine w_gets C hw C.2.2.1.2.2.1 kf_X11_167 dX11_whoseCry_21 ?_
      refine lv_bipush (v := 12) hx hb dX11_whoseCry_24 (by decide) ?_
      refine w_tald C hw C.2.2.1.2.2.1 (by decide) (show (12 : Int32).toNatClampNeg = 12 by decide) dX11_whoseCry_26 ?_
      refine lv_icmp_gt (tgt := 34) hx hb dX11_whoseCry_27 (by decide) (fun c3 => ?_) (fun c3 => ?_)
      · replace hf := ite_t hf c3
        exact tX11_whoseCry_34 C hr st a1 a2 a3 _ _ _ hw (lv_sub hl [0, 1, 2, 3] rfl) hf
      · replace hf := ite_f hf c3
        refine lv_iconst (v := 1) hx hb dX11_whoseCry_30 (by decide) ?_
        refine lv_goto (tgt := 35) hx hb dX11_whoseCry_31 (by decide) ?_
        exact tX11_whoseCry_35 C hr st a1 a2 a3 (1 : Int32) _ _ _ hw (lv_sub hl [0, 1, 2, 3] rfl) hf
