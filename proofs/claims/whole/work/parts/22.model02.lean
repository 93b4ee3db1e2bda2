theorem dX12_feed_0 : decode cX12_feed 0 = .ok (.iload_n 1, 1) := by decide +kernel
theorem dX12_feed_1 : decode cX12_feed 1 = .ok (.iconst 0, 1) := by decide +kernel
theorem dX12_feed_2 : decode cX12_feed 2 = .ok (.sipush 255, 3) := by decide +kernel
theorem dX12_feed_5 : decode cX12_feed 5 = .ok (.invokestatic 147, 3) := by decide +kernel
theorem dX12_feed_8 : decode cX12_feed 8 = .ok (.ifCond .ne 5, 3) := by decide +kernel
theorem dX12_feed_11 : decode cX12_feed 11 = .ok (.iconst (-1), 1) := by decide +kernel
theorem dX12_feed_12 : decode cX12_feed 12 = .ok (.ireturn, 1) := by decide +kernel
theorem dX12_feed_13 : decode cX12_feed 13 = .ok (.aload_n 0, 1) := by decide +kernel
theorem dX12_feed_14 : decode cX12_feed 14 = .ok (.getfield 214, 3) := by decide +kernel
theorem dX12_feed_17 : decode cX12_feed 17 = .ok (.bipush 120, 2) := by decide +kernel
theorem dX12_feed_19 : decode cX12_feed 19 = .ok (.if_icmp .ne 6, 3) := by decide +kernel
theorem dX12_feed_22 : decode cX12_feed 22 = .ok (.bipush (-3), 2) := by decide +kernel
theorem dX12_feed_24 : decode cX12_feed 24 = .ok (.ireturn, 1) := by decide +kernel
theorem dX12_feed_25 : decode cX12_feed 25 = .ok (.aload_n 0, 1) := by decide +kernel
theorem dX12_feed_26 : decode cX12_feed 26 = .ok (.getfield 64, 3) := by decide +kernel
theorem dX12_feed_29 : decode cX12_feed 29 = .ok (.aload_n 0, 1) := by decide +kernel
theorem dX12_feed_30 : decode cX12_feed 30 = .ok (.getfield 214, 3) := by decide +kernel
theorem dX12_feed_33 : decode cX12_feed 33 = .ok (.iload_n 1, 1) := by decide +kernel
theorem dX12_feed_34 : decode cX12_feed 34 = .ok (.i2b, 1) := by decide +kernel
theorem dX12_feed_35 : decode cX12_feed 35 = .ok (.bastore, 1) := by decide +kernel
theorem dX12_feed_36 : decode cX12_feed 36 = .ok (.aload_n 0, 1) := by decide +kernel
theorem dX12_feed_37 : decode cX12_feed 37 = .ok (.dup, 1) := by decide +kernel
theorem dX12_feed_38 : decode cX12_feed 38 = .ok (.getfield 214, 3) := by decide +kernel
theorem dX12_feed_41 : decode cX12_feed 41 = .ok (.iconst 1, 1) := by decide +kernel
theorem dX12_feed_42 : decode cX12_feed 42 = .ok (.iadd, 1) := by decide +kernel
theorem dX12_feed_43 : decode cX12_feed 43 = .ok (.putfield 214, 3) := by decide +kernel
theorem dX12_feed_46 : decode cX12_feed 46 = .ok (.aload_n 0, 1) := by decide +kernel
theorem dX12_feed_47 : decode cX12_feed 47 = .ok (.getfield 214, 3) := by decide +kernel
theorem dX12_feed_50 : decode cX12_feed 50 = .ok (.ireturn, 1) := by decide +kernel
theorem ok_yX12_feed : yOk yX12_feed 1 := ⟨by decide +kernel, by decide +kernel, by decide +kernel⟩
def fX12_feed (st : St) (a1 : Int32) : Option (Int32 × St) := if bI (fX12_in a1 (0 : Int32) (255 : Int32)) = 0 then (some ((-1 : Int32), st)) else (if gI st 0 25 = (120 : Int32) then (some ((-3 : Int32), st)) else (gd (inB (gI st 0 25) 120) (bnd (sI st 19 (gI st 0 25).toNatClampNeg (vp_nar .byte a1.toInt8.toInt32)) (fun st4 => bnd (sI st4 0 25 ((gI st4 0 25) + (1 : Int32))) (fun st6 => some ((gI st6 0 25), st6))))))
set_option maxHeartbeats 4000000 in
theorem zX12_feed (l : Launch) (X : WX) (st : St) (a1 : Int32) (R : Int32 × St) (hf : fX12_feed st a1 = some R) : CtI l yX12_feed cX12_feed 2 .int ({ frames := 1, cells := 0, slots := 0, locals := 22 }) EM 43 X [.ref (xq X 0), .int a1] st R.1 R.2 := by
  refine ct_in (own := RX12) (by decide +kernel) rfl (Nat.le_of_ble_eq_true rfl) (fun p e s m below meth c C hr hw ls hl => ?_)
  obtain ⟨hx, hb, hml, hown, hts⟩ := id C.1
  have hl : lv_has ls 2 [(0, .ref (xq X 0)), (1, .int a1)] := hl
  unfold fX12_feed at hf
  refine lv_iload_n hx hb dX12_feed_0 rfl (lv_at hl 1 rfl) ?_
  refine lv_iconst (v := 0) hx hb dX12_feed_1 (by decide) ?_
  refine lv_sipush (v := 255) hx hb dX12_feed_2 (by decide) ?_
  refine w_goI hw (w_runS (rest := []) C hw (zX12_in _ _ st a1 (0 : Int32) (255 : Int32)) km_X12_147 kt_yX12_in kz_X12 kc_X12_in ok_yX12_in ⟨Nat.le_of_ble_eq_true rfl, Nat.le_of_ble_eq_true rfl⟩ rfl rfl rfl rfl hl.1 (Nat.le_of_ble_eq_true rfl) dX12_feed_5 ⟨Nat.zero_le _, Nat.zero_le _⟩) (fun H locs hw => ?_)
  refine lv_if_ne (tgt := 13) hx hb dX12_feed_8 (by decide) (fun c1 => ?_) (fun c1 => ?_)
  · replace hf := ite_f hf c1
    refine lv_aload_n hx hb dX12_feed_13 rfl (lv_at hl 0 rfl) ?_
    refine w_get (T := TX12) C hw (by decide) 25 kf_X12_214 (EM_0 X _ _) rfl inA12 (by decide) rfl dX12_feed_14 ?_
    refine lv_bipush (v := 120) hx hb dX12_feed_17 (by decide) ?_
    refine lv_icmp_ne (tgt := 25) hx hb dX12_feed_19 (by decide) (fun c2 => ?_) (fun c2 => ?_)
    · replace hf := ite_f hf c2
      refine lv_aload_n hx hb dX12_feed_25 rfl (lv_at hl 0 rfl) ?_
      refine w_get (T := TX12) C hw (by decide) 24 kf_X12_64 (EM_0 X _ _) rfl inA12 (by decide) rfl dX12_feed_26 ?_
      refine lv_aload_n hx hb dX12_feed_29 rfl (lv_at hl 0 rfl) ?_
      refine w_get (T := TX12) C hw (by decide) 25 kf_X12_214 (EM_0 X _ _) rfl inA12 (by decide) rfl dX12_feed_30 ?_
      refine lv_iload_n hx hb dX12_feed_33 rfl (lv_at hl 1 rfl) ?_
      refine lv_i2b (v := a1.toInt8.toInt32) hx hb dX12_feed_34 rfl ?_
      obtain ⟨h3, hf⟩ := gd_some hf
      obtain ⟨st4, es5⟩ : ∃ z : St, z = sI st 19 (gI st 0 25).toNatClampNeg (vp_nar .byte a1.toInt8.toInt32) := ⟨_, rfl⟩
      replace hf := bnd_nm hf es5
      refine w_bast C hw (by decide) (fun f9 => EM_19 X f9 _) h3 rfl dX12_feed_35 (fun H locs hw => ?_)
      rw [← es5] at hw
      refine lv_aload_n hx hb dX12_feed_36 rfl (lv_at hl 0 rfl) ?_
      refine lv_dup hx hb dX12_feed_37 rfl ?_
      refine w_get (T := TX12) C hw (by decide) 25 kf_X12_214 (EM_0 X _ _) rfl inA12 (by decide) rfl dX12_feed_38 ?_
      refine lv_iconst (v := 1) hx hb dX12_feed_41 (by decide) ?_
      refine lv_iadd hx hb dX12_feed_42 ?_
      obtain ⟨st6, es7⟩ : ∃ z : St, z = sI st4 0 25 ((gI st4 0 25) + (1 : Int32)) := ⟨_, rfl⟩
      replace hf := bnd_nm hf es7
      refine w_puti (T := TX12) C hw (by decide) 25 kf_X12_214 (EM_0 X _ _) rfl inA12 tyX12_ok nmX12 (by decide) rfl rfl (Nat.le_of_ble_eq_true rfl) rfl dX12_feed_43 (fun H locs hw => ?_)
      rw [← es7] at hw
      refine lv_aload_n hx hb dX12_feed_46 rfl (lv_at hl 0 rfl) ?_
      refine w_get (T := TX12) C hw (by decide) 25 kf_X12_214 (EM_0 X _ _) rfl inA12 (by decide) rfl dX12_feed_47 ?_
      exact w_iret C hw hr (so2 hf).1 (so2 hf).2 dX12_feed_50
    · replace hf := ite_t hf c2
      refine lv_bipush (v := -3) hx hb dX12_feed_22 (by decide) ?_
      exact w_iret C hw hr (so2 hf).1 (so2 hf).2 dX12_feed_24
  · replace hf := ite_t hf c1
    refine lv_iconst (v := -1) hx hb dX12_feed_11 (by decide) ?_
    exact w_iret C hw hr (so2 hf).1 (so2 hf).2 dX12_feed_12
theorem dX12_look_0 : decode cX12_look 0 = .ok (.aload_n 0, 1) := by decide +kernel
theorem dX12_look_1 : decode cX12_look 1 = .ok (.getfield 217, 3) := by decide +kernel
theorem dX12_look_4 : decode cX12_look 4 = .ok (.aload_n 0, 1) := by decide +kernel
theorem dX12_look_5 : decode cX12_look 5 = .ok (.getfield 214, 3) := by decide +kernel
theorem dX12_look_8 : decode cX12_look 8 = .ok (.if_icmp .ge 15, 3) := by decide +kernel
theorem dX12_look_11 : decode cX12_look 11 = .ok (.aload_n 0, 1) := by decide +kernel
theorem dX12_look_12 : decode cX12_look 12 = .ok (.getfield 64, 3) := by decide +kernel
theorem dX12_look_15 : decode cX12_look 15 = .ok (.aload_n 0, 1) := by decide +kernel
theorem dX12_look_16 : decode cX12_look 16 = .ok (.getfield 217, 3) := by decide +kernel
theorem dX12_look_19 : decode cX12_look 19 = .ok (.baload, 1) := by decide +kernel
theorem dX12_look_20 : decode cX12_look 20 = .ok (.goto 4, 3) := by decide +kernel
theorem dX12_look_23 : decode cX12_look 23 = .ok (.iconst (-1), 1) := by decide +kernel
theorem dX12_look_24 : decode cX12_look 24 = .ok (.ireturn, 1) := by decide +kernel
theorem ok_yX12_look : yOk yX12_look 0 := ⟨by decide +kernel, by decide +kernel, by decide +kernel⟩
def fX12_look (st : St) : Option (Int32) := if gI st 0 25 ≤ gI st 0 26 then (some (-1 : Int32)) else (gd (inB (gI st 0 26) 120) (some (gI st 19 (gI st 0 26).toNatClampNeg)))
set_option maxHeartbeats 4000000 in
theorem zX12_look (l : Launch) (X : WX) (st : St)  (R : Int32) (hf : fX12_look st = some R) : CtI l yX12_look cX12_look 1 .int ({ frames := 0, cells := 0, slots := 0, locals := 0 }) EM 43 X [.ref (xq X 0)] st R st := by
  refine ct_in (own := RX12) (by decide +kernel) rfl (Nat.le_of_ble_eq_true rfl) (fun p e s m below meth c C hr hw ls hl => ?_)
  obtain ⟨hx, hb, hml, hown, hts⟩ := id C.1
  have hl : lv_has ls 1 [(0, .ref (xq X 0))] := hl
  unfold fX12_look at hf
  refine lv_aload_n hx hb dX12_look_0 rfl (lv_at hl 0 rfl) ?_
  refine w_get (T := TX12) C hw (by decide) 26 kf_X12_217 (EM_0 X _ _) rfl inA12 (by decide) rfl dX12_look_1 ?_
  refine lv_aload_n hx hb dX12_look_4 rfl (lv_at hl 0 rfl) ?_
  refine w_get (T := TX12) C hw (by decide) 25 kf_X12_214 (EM_0 X _ _) rfl inA12 (by decide) rfl dX12_look_5 ?_
  refine lv_icmp_ge (tgt := 23) hx hb dX12_look_8 (by decide) (fun c1 => ?_) (fun c1 => ?_)
  · replace hf := ite_t hf c1
    refine lv_iconst (v := -1) hx hb dX12_look_23 (by decide) ?_
    exact w_iret C hw hr (Option.some.inj hf) rfl dX12_look_24
  · replace hf := ite_f hf c1
    refine lv_aload_n hx hb dX12_look_11 rfl (lv_at hl 0 rfl) ?_
    refine w_get (T := TX12) C hw (by decide) 24 kf_X12_64 (EM_0 X _ _) rfl inA12 (by decide) rfl dX12_look_12 ?_
    refine lv_aload_n hx hb dX12_look_15 rfl (lv_at hl 0 rfl) ?_
    refine w_get (T := TX12) C hw (by decide) 26 kf_X12_217 (EM_0 X _ _) rfl inA12 (by decide) rfl dX12_look_16 ?_
    obtain ⟨h2, hf⟩ := gd_some hf
    refine w_bald C hw (by decide) (EM_19 X _ _) h2 rfl dX12_look_19 ?_
    refine lv_goto (tgt := 24) hx hb dX12_look_20 (by decide) ?_
    exact w_iret C hw hr (Option.some.inj hf) rfl dX12_look_24
theorem dX12_wrong_0 : decode cX12_wrong 0 = .ok (.aload_n 0, 1) := by decide +kernel
theorem dX12_wrong_1 : decode cX12_wrong 1 = .ok (.getfield 220, 3) := by decide +kernel
theorem dX12_wrong_4 : decode cX12_wrong 4 = .ok (.ifCond .ge 11, 3) := by decide +kernel
theorem dX12_wrong_7 : decode cX12_wrong 7 = .ok (.aload_n 0, 1) := by decide +kernel
theorem dX12_wrong_8 : decode cX12_wrong 8 = .ok (.aload_n 0, 1) := by decide +kernel
theorem dX12_wrong_9 : decode cX12_wrong 9 = .ok (.getfield 217, 3) := by decide +kernel
theorem dX12_wrong_12 : decode cX12_wrong 12 = .ok (.putfield 220, 3) := by decide +kernel
theorem dX12_wrong_15 : decode cX12_wrong 15 = .ok (.return_, 1) := by decide +kernel
theorem ok_yX12_wrong : yOk yX12_wrong 0 := ⟨by decide +kernel, by decide +kernel, by decide +kernel⟩
def fX12_wrong (st : St) : St := if 0 ≤ gI st 0 27 then (st) else (bnd (sI st 0 27 (gI st 0 26)) (fun st2 => st2))
set_option maxHeartbeats 4000000 in
theorem zX12_wrong (l : Launch) (X : WX) (st : St)  (R : St) (hf : fX12_wrong st = R) : CtV l yX12_wrong cX12_wrong 1 ({ frames := 0, cells := 0, slots := 0, locals := 0 }) EM 43 X [.ref (xq X 0)] st R := by
  refine ct_in (own := RX12) (by decide +kernel) rfl (Nat.le_of_ble_eq_true rfl) (fun p e s m below meth c C hr hw ls hl => ?_)
  obtain ⟨hx, hb, hml, hown, hts⟩ := id C.1
  have hl : lv_has ls 1 [(0, .ref (xq X 0))] := hl
  unfold fX12_wrong at hf
  refine lv_aload_n hx hb dX12_wrong_0 rfl (lv_at hl 0 rfl) ?_
  refine w_get (T := TX12) C hw (by decide) 27 kf_X12_220 (EM_0 X _ _) rfl inA12 (by decide) rfl dX12_wrong_1 ?_
  refine lv_if_ge (tgt := 15) hx hb dX12_wrong_4 (by decide) (fun c1 => ?_) (fun c1 => ?_)
  · replace hf := ite_t hf c1
    exact w_vret C hw hr hf dX12_wrong_15
  · replace hf := ite_f hf c1
    refine lv_aload_n hx hb dX12_wrong_7 rfl (lv_at hl 0 rfl) ?_
    refine lv_aload_n hx hb dX12_wrong_8 rfl (lv_at hl 0 rfl) ?_
    refine w_get (T := TX12) C hw (by decide) 26 kf_X12_217 (EM_0 X _ _) rfl inA12 (by decide) rfl dX12_wrong_9 ?_
    obtain ⟨st2, es3⟩ : ∃ z : St, z = sI st 0 27 (gI st 0 26) := ⟨_, rfl⟩
    replace hf := bnd_nm hf es3
    refine w_puti (T := TX12) C hw (by decide) 27 kf_X12_220 (EM_0 X _ _) rfl inA12 tyX12_ok nmX12 (by decide) rfl rfl (Nat.le_of_ble_eq_true rfl) rfl dX12_wrong_12 (fun H locs hw => ?_)
    rw [← es3] at hw
    exact w_vret C hw hr hf dX12_wrong_15
theorem dX12_addStep_0 : decode cX12_addStep 0 = .ok (.aload_n 0, 1) := by decide +kernel
theorem dX12_addStep_1 : decode cX12_addStep 1 = .ok (.getfield 68, 3) := by decide +kernel
theorem dX12_addStep_4 : decode cX12_addStep 4 = .ok (.sipush 130, 3) := by decide +kernel
theorem dX12_addStep_7 : decode cX12_addStep 7 = .ok (.aload_n 0, 1) := by decide +kernel
theorem dX12_addStep_8 : decode cX12_addStep 8 = .ok (.getfield 223, 3) := by decide +kernel
theorem dX12_addStep_11 : decode cX12_addStep 11 = .ok (.iadd, 1) := by decide +kernel
theorem dX12_addStep_12 : decode cX12_addStep 12 = .ok (.iload_n 1, 1) := by decide +kernel
theorem dX12_addStep_13 : decode cX12_addStep 13 = .ok (.i2b, 1) := by decide +kernel
theorem dX12_addStep_14 : decode cX12_addStep 14 = .ok (.bastore, 1) := by decide +kernel
theorem dX12_addStep_15 : decode cX12_addStep 15 = .ok (.aload_n 0, 1) := by decide +kernel
theorem dX12_addStep_16 : decode cX12_addStep 16 = .ok (.getfield 71, 3) := by decide +kernel
theorem dX12_addStep_19 : decode cX12_addStep 19 = .ok (.sipush 130, 3) := by decide +kernel
theorem dX12_addStep_22 : decode cX12_addStep 22 = .ok (.aload_n 0, 1) := by decide +kernel
theorem dX12_addStep_23 : decode cX12_addStep 23 = .ok (.getfield 223, 3) := by decide +kernel
theorem dX12_addStep_26 : decode cX12_addStep 26 = .ok (.iadd, 1) := by decide +kernel
theorem dX12_addStep_27 : decode cX12_addStep 27 = .ok (.iload_n 2, 1) := by decide +kernel
theorem dX12_addStep_28 : decode cX12_addStep 28 = .ok (.iastore, 1) := by decide +kernel
theorem dX12_addStep_29 : decode cX12_addStep 29 = .ok (.aload_n 0, 1) := by decide +kernel
theorem dX12_addStep_30 : decode cX12_addStep 30 = .ok (.dup, 1) := by decide +kernel
theorem dX12_addStep_31 : decode cX12_addStep 31 = .ok (.getfield 223, 3) := by decide +kernel
theorem dX12_addStep_34 : decode cX12_addStep 34 = .ok (.iconst 1, 1) := by decide +kernel
theorem dX12_addStep_35 : decode cX12_addStep 35 = .ok (.iadd, 1) := by decide +kernel
theorem dX12_addStep_36 : decode cX12_addStep 36 = .ok (.putfield 223, 3) := by decide +kernel
theorem dX12_addStep_39 : decode cX12_addStep 39 = .ok (.return_, 1) := by decide +kernel
theorem ok_yX12_addStep : yOk yX12_addStep 2 := ⟨by decide +kernel, by decide +kernel, by decide +kernel⟩
def fX12_addStep (st : St) (a1 : Int32) (a2 : Int32) : Option (St) := gd (inB ((130 : Int32) + (gI st 0 29)) 260) (bnd (sI st 20 ((130 : Int32) + (gI st 0 29)).toNatClampNeg (vp_nar .byte a1.toInt8.toInt32)) (fun st2 => gd (inB ((130 : Int32) + (gI st2 0 29)) 260) (bnd (sI st2 21 ((130 : Int32) + (gI st2 0 29)).toNatClampNeg a2) (fun st5 => bnd (sI st5 0 29 ((gI st5 0 29) + (1 : Int32))) (fun st7 => some st7)))))
set_option maxHeartbeats 4000000 in
theorem zX12_addStep (l : Launch) (X : WX) (st : St) (a1 : Int32) (a2 : Int32) (R : St) (hf : fX12_addStep st a1 a2 = some R) : CtV l yX12_addStep cX12_addStep 3 ({ frames := 0, cells := 0, slots := 0, locals := 0 }) EM 43 X [.ref (xq X 0), .int a1, .int a2] st R := by
  refine ct_in (own := RX12) (by decide +kernel) rfl (Nat.le_of_ble_eq_true rfl) (fun p e s m below meth c C hr hw ls hl => ?_)
  obtain ⟨hx, hb, hml, hown, hts⟩ := id C.1
  have hl : lv_has ls 3 [(0, .ref (xq X 0)), (1, .int a1), (2, .int a2)] := hl
  unfold fX12_addStep at hf
  refine lv_aload_n hx hb dX12_addStep_0 rfl (lv_at hl 0 rfl) ?_
  refine w_get (T := TX12) C hw (by decide) 30 kf_X12_68 (EM_0 X _ _) rfl inA12 (by decide) rfl dX12_addStep_1 ?_
  refine lv_sipush (v := 130) hx hb dX12_addStep_4 (by decide) ?_
  refine lv_aload_n hx hb dX12_addStep_7 rfl (lv_at hl 0 rfl) ?_
  refine w_get (T := TX12) C hw (by decide) 29 kf_X12_223 (EM_0 X _ _) rfl inA12 (by decide) rfl dX12_addStep_8 ?_
  refine lv_iadd hx hb dX12_addStep_11 ?_
  refine lv_iload_n hx hb dX12_addStep_12 rfl (lv_at hl 1 rfl) ?_
  refine lv_i2b (v := a1.toInt8.toInt32) hx hb dX12_addStep_13 rfl ?_
  obtain ⟨h1, hf⟩ := gd_some hf
  obtain ⟨st2, es3⟩ : ∃ z : St, z = sI st 20 ((130 : Int32) + (gI st 0 29)).toNatClampNeg (vp_nar .byte a1.toInt8.toInt32) := ⟨_, rfl⟩
  replace hf := bnd_nm hf es3
  refine w_bast C hw (by decide) (fun f9 => EM_20 X f9 _) h1 rfl dX12_addStep_14 (fun H locs hw => ?_)
  rw [← es3] at hw
  refine lv_aload_n hx hb dX12_addStep_15 rfl (lv_at hl 0 rfl) ?_
  refine w_get (T := TX12) C hw (by decide) 31 kf_X12_71 (EM_0 X _ _) rfl inA12 (by decide) rfl dX12_addStep_16 ?_
  refine lv_sipush (v := 130) hx hb dX12_addStep_19 (by decide) ?_
  refine lv_aload_n hx hb dX12_addStep_22 rfl (lv_at hl 0 rfl) ?_
  refine w_get (T := TX12) C hw (by decide) 29 kf_X12_223 (EM_0 X _ _) rfl inA12 (by decide) rfl dX12_addStep_23 ?_
  refine lv_iadd hx hb dX12_addStep_26 ?_
  refine lv_iload_n hx hb dX12_addStep_27 rfl (lv_at hl 2 rfl) ?_
  obtain ⟨h4, hf⟩ := gd_some hf
  obtain ⟨st5, es6⟩ : ∃ z : St, z = sI st2 21 ((130 : Int32) + (gI st2 0 29)).toNatClampNeg a2 := ⟨_, rfl⟩
  replace hf := bnd_nm hf es6
  refine w_iast C hw (by decide) (fun f9 => EM_21 X f9 _) h4 rfl dX12_addStep_28 (fun H locs hw => ?_)
  rw [← es6] at hw
  refine lv_aload_n hx hb dX12_addStep_29 rfl (lv_at hl 0 rfl) ?_
  refine lv_dup hx hb dX12_addStep_30 rfl ?_
  refine w_get (T := TX12) C hw (by decide) 29 kf_X12_223 (EM_0 X _ _) rfl inA12 (by decide) rfl dX12_addStep_31 ?_
  refine lv_iconst (v := 1) hx hb dX12_addStep_34 (by decide) ?_
  refine lv_iadd hx hb dX12_addStep_35 ?_
  obtain ⟨st7, es8⟩ : ∃ z : St, z = sI st5 0 29 ((gI st5 0 29) + (1 : Int32)) := ⟨_, rfl⟩
  replace hf := bnd_nm hf es8
  refine w_puti (T := TX12) C hw (by decide) 29 kf_X12_223 (EM_0 X _ _) rfl inA12 tyX12_ok nmX12 (by decide) rfl rfl (Nat.le_of_ble_eq_true rfl) rfl dX12_addStep_36 (fun H locs hw => ?_)
  rw [← es8] at hw
  exact w_vret C hw hr (Option.some.inj hf) dX12_addStep_39
theorem dX12_nameOf_0 : decode cX12_nameOf 0 = .ok (.iload_n 0, 1) := by decide +kernel
theorem dX12_nameOf_1 : decode cX12_nameOf 1 = .ok (.tableswitch 107 100 119 #[95, 107, 107, 107, 103, 107, 107, 99, 101, 107, 107, 107, 107, 107, 107, 105, 107, 107, 107, 97], 95) := by decide +kernel
theorem dX12_nameOf_96 : decode cX12_nameOf 96 = .ok (.iconst 0, 1) := by decide +kernel
theorem dX12_nameOf_97 : decode cX12_nameOf 97 = .ok (.ireturn, 1) := by decide +kernel
theorem dX12_nameOf_98 : decode cX12_nameOf 98 = .ok (.iconst 1, 1) := by decide +kernel
theorem dX12_nameOf_99 : decode cX12_nameOf 99 = .ok (.ireturn, 1) := by decide +kernel
theorem dX12_nameOf_100 : decode cX12_nameOf 100 = .ok (.iconst 2, 1) := by decide +kernel
theorem dX12_nameOf_101 : decode cX12_nameOf 101 = .ok (.ireturn, 1) := by decide +kernel
theorem dX12_nameOf_102 : decode cX12_nameOf 102 = .ok (.iconst 3, 1) := by decide +kernel
theorem dX12_nameOf_103 : decode cX12_nameOf 103 = .ok (.ireturn, 1) := by decide +kernel
theorem dX12_nameOf_104 : decode cX12_nameOf 104 = .ok (.iconst 4, 1) := by decide +kernel
theorem dX12_nameOf_105 : decode cX12_nameOf 105 = .ok (.ireturn, 1) := by decide +kernel
theorem dX12_nameOf_106 : decode cX12_nameOf 106 = .ok (.iconst 5, 1) := by decide +kernel
theorem dX12_nameOf_107 : decode cX12_nameOf 107 = .ok (.ireturn, 1) := by decide +kernel
theorem dX12_nameOf_108 : decode cX12_nameOf 108 = .ok (.iconst (-1), 1) := by decide +kernel
theorem dX12_nameOf_109 : decode cX12_nameOf 109 = .ok (.ireturn, 1) := by decide +kernel
theorem ok_yX12_nameOf : yOk yX12_nameOf 1 := ⟨by decide +kernel, by decide +kernel, by decide +kernel⟩
def fX12_nameOf (a0 : Int32) : Int32 := if a0 = 100 then ((0 : Int32)) else (if a0 = 101 then ((-1 : Int32)) else (if a0 = 102 then ((-1 : Int32)) else (if a0 = 103 then ((-1 : Int32)) else (if a0 = 104 then ((4 : Int32)) else (if a0 = 105 then ((-1 : Int32)) else (if a0 = 106 then ((-1 : Int32)) else (if a0 = 107 then ((2 : Int32)) else (if a0 = 108 then ((3 : Int32)) else (if a0 = 109 then ((-1 : Int32)) else (if a0 = 110 then ((-1 : Int32)) else (if a0 = 111 then ((-1 : Int32)) else (if a0 = 112 then ((-1 : Int32)) else (if a0 = 113 then ((-1 : Int32)) else (if a0 = 114 then ((-1 : Int32)) else (if a0 = 115 then ((5 : Int32)) else (if a0 = 116 then ((-1 : Int32)) else (if a0 = 117 then ((-1 : Int32)) else (if a0 = 118 then ((-1 : Int32)) else (if a0 = 119 then ((1 : Int32)) else ((-1 : Int32)))))))))))))))))))))
set_option maxHeartbeats 4000000 in
theorem zX12_nameOf (l : Launch) (X : WX) (st : St) (a0 : Int32) : CtI l yX12_nameOf cX12_nameOf 1 .int ({ frames := 0, cells := 0, slots := 0, locals := 0 }) EM 43 X [.int a0] st (fX12_nameOf a0) st := by
  generalize hf : fX12_nameOf a0 = R
  refine ct_in (own := RX12) (by decide +kernel) rfl (Nat.le_of_ble_eq_true rfl) (fun p e s m below meth c C hr hw ls hl => ?_)
  obtain ⟨hx, hb, hml, hown, hts⟩ := id C.1
  have hl : lv_has ls 1 [(0, .int a0)] := hl
  unfold fX12_nameOf at hf
  refine lv_iload_n hx hb dX12_nameOf_0 rfl (lv_at hl 0 rfl) ?_
  by_cases c1 : a0 = 100
  · replace hf := ite_t hf c1
    refine lv_tableIn (tgt := 96) hx hb dX12_nameOf_1 (by rw [c1]; decide) (by rw [c1]; decide) (by rw [c1]; rfl) (by decide) ?_
    refine lv_iconst (v := 0) hx hb dX12_nameOf_96 (by decide) ?_
    exact w_iret C hw hr hf rfl dX12_nameOf_97
  · replace hf := ite_f hf c1
    by_cases c2 : a0 = 101
    · replace hf := ite_t hf c2
      refine lv_tableIn (tgt := 108) hx hb dX12_nameOf_1 (by rw [c2]; decide) (by rw [c2]; decide) (by rw [c2]; rfl) (by decide) ?_
      refine lv_iconst (v := -1) hx hb dX12_nameOf_108 (by decide) ?_
      exact w_iret C hw hr hf rfl dX12_nameOf_109
    · replace hf := ite_f hf c2
      by_cases c3 : a0 = 102
      · replace hf := ite_t hf c3
        refine lv_tableIn (tgt := 108) hx hb dX12_nameOf_1 (by rw [c3]; decide) (by rw [c3]; decide) (by rw [c3]; rfl) (by decide) ?_
        refine lv_iconst (v := -1) hx hb dX12_nameOf_108 (by decide) ?_
        exact w_iret C hw hr hf rfl dX12_nameOf_109
      · replace hf := ite_f hf c3
        by_cases c4 : a0 = 103
        · replace hf := ite_t hf c4
          refine lv_tableIn (tgt := 108) hx hb dX12_nameOf_1 (by rw [c4]; decide) (by rw [c4]; decide) (by rw [c4]; rfl) (by decide) ?_
          refine lv_iconst (v := -1) hx hb dX12_nameOf_108 (by decide) ?_
          exact w_iret C hw hr hf rfl dX12_nameOf_109
        · replace hf := ite_f hf c4
          by_cases c5 : a0 = 104
          · replace hf := ite_t hf c5
            refine lv_tableIn (tgt := 104) hx hb dX12_nameOf_1 (by rw [c5]; decide) (by rw [c5]; decide) (by rw [c5]; rfl) (by decide) ?_
            refine lv_iconst (v := 4) hx hb dX12_nameOf_104 (by decide) ?_
            exact w_iret C hw hr hf rfl dX12_nameOf_105
          · replace hf := ite_f hf c5
            by_cases c6 : a0 = 105
            · replace hf := ite_t hf c6
              refine lv_tableIn (tgt := 108) hx hb dX12_nameOf_1 (by rw [c6]; decide) (by rw [c6]; decide) (by rw [c6]; rfl) (by decide) ?_
              refine lv_iconst (v := -1) hx hb dX12_nameOf_108 (by decide) ?_
              exact w_iret C hw hr hf rfl dX12_nameOf_109
            · replace hf := ite_f hf c6
              by_cases c7 : a0 = 106
              · replace hf := ite_t hf c7
                refine lv_tableIn (tgt := 108) hx hb dX12_nameOf_1 (by rw [c7]; decide) (by rw [c7]; decide) (by rw [c7]; rfl) (by decide) ?_
                refine lv_iconst (v := -1) hx hb dX12_nameOf_108 (by decide) ?_
                exact w_iret C hw hr hf rfl dX12_nameOf_109
              · replace hf := ite_f hf c7
                by_cases c8 : a0 = 107
                · replace hf := ite_t hf c8
                  refine lv_tableIn (tgt := 100) hx hb dX12_nameOf_1 (by rw [c8]; decide) (by rw [c8]; decide) (by rw [c8]; rfl) (by decide) ?_
                  refine lv_iconst (v := 2) hx hb dX12_nameOf_100 (by decide) ?_
                  exact w_iret C hw hr hf rfl dX12_nameOf_101
                · replace hf := ite_f hf c8
                  by_cases c9 : a0 = 108
                  · replace hf := ite_t hf c9
                    refine lv_tableIn (tgt := 102) hx hb dX12_nameOf_1 (by rw [c9]; decide) (by rw [c9]; decide) (by rw [c9]; rfl) (by decide) ?_
                    refine lv_iconst (v := 3) hx hb dX12_nameOf_102 (by decide) ?_
                    exact w_iret C hw hr hf rfl dX12_nameOf_103
                  · replace hf := ite_f hf c9
                    by_cases c10 : a0 = 109
                    · replace hf := ite_t hf c10
                      refine lv_tableIn (tgt := 108) hx hb dX12_nameOf_1 (by rw [c10]; decide) (by rw [c10]; decide) (by rw [c10]; rfl) (by decide) ?_
                      refine lv_iconst (v := -1) hx hb dX12_nameOf_108 (by decide) ?_
                      exact w_iret C hw hr hf rfl dX12_nameOf_109
                    · replace hf := ite_f hf c10
                      by_cases c11 : a0 = 110
                      · replace hf := ite_t hf c11
                        refine lv_tableIn (tgt := 108) hx hb dX12_nameOf_1 (by rw [c11]; decide) (by rw [c11]; decide) (by rw [c11]; rfl) (by decide) ?_
                        refine lv_iconst (v := -1) hx hb dX12_nameOf_108 (by decide) ?_
                        exact w_iret C hw hr hf rfl dX12_nameOf_109
                      · replace hf := ite_f hf c11
                        by_cases c12 : a0 = 111
                        · replace hf := ite_t hf c12
                          refine lv_tableIn (tgt := 108) hx hb dX12_nameOf_1 (by rw [c12]; decide) (by rw [c12]; decide) (by rw [c12]; rfl) (by decide) ?_
                          refine lv_iconst (v := -1) hx hb dX12_nameOf_108 (by decide) ?_
                          exact w_iret C hw hr hf rfl dX12_nameOf_109
                        · replace hf := ite_f hf c12
                          by_cases c13 : a0 = 112
                          · replace hf := ite_t hf c13
                            refine lv_tableIn (tgt := 108) hx hb dX12_nameOf_1 (by rw [c13]; decide) (by rw [c13]; decide) (by rw [c13]; rfl) (by decide) ?_
                            refine lv_iconst (v := -1) hx hb dX12_nameOf_108 (by decide) ?_
                            exact w_iret C hw hr hf rfl dX12_nameOf_109
                          · replace hf := ite_f hf c13
                            by_cases c14 : a0 = 113
                            · replace hf := ite_t hf c14
                              refine lv_tableIn (tgt := 108) hx hb dX12_nameOf_1 (by rw [c14]; decide) (by rw [c14]; decide) (by rw [c14]; rfl) (by decide) ?_
                              refine lv_iconst (v := -1) hx hb dX12_nameOf_108 (by decide) ?_
                              exact w_iret C hw hr hf rfl dX12_nameOf_109
                            · replace hf := ite_f hf c14
                              by_cases c15 : a0 = 114
                              · replace hf := ite_t hf c15
                                refine lv_tableIn (tgt := 108) hx hb dX12_nameOf_1 (by rw [c15]; decide) (by rw [c15]; decide) (by rw [c15]; rfl) (by decide) ?_
                                refine lv_iconst (v := -1) hx hb dX12_nameOf_108 (by decide) ?_
                                exact w_iret C hw hr hf rfl dX12_nameOf_109
                              · replace hf := ite_f hf c15
                                by_cases c16 : a0 = 115
                                · replace hf := ite_t hf c16
                                  refine lv_tableIn (tgt := 106) hx hb dX12_nameOf_1 (by rw [c16]; decide) (by rw [c16]; decide) (by rw [c16]; rfl) (by decide) ?_
                                  refine lv_iconst (v := 5) hx hb dX12_nameOf_106 (by decide) ?_
                                  exact w_iret C hw hr hf rfl dX12_nameOf_107
                                · replace hf := ite_f hf c16
                                  by_cases c17 : a0 = 116
                                  · replace hf := ite_t hf c17
                                    refine lv_tableIn (tgt := 108) hx hb dX12_nameOf_1 (by rw [c17]; decide) (by rw [c17]; decide) (by rw [c17]; rfl) (by decide) ?_
                                    refine lv_iconst (v := -1) hx hb dX12_nameOf_108 (by decide) ?_
                                    exact w_iret C hw hr hf rfl dX12_nameOf_109
                                  · replace hf := ite_f hf c17
                                    by_cases c18 : a0 = 117
                                    · replace hf := ite_t hf c18
                                      refine lv_tableIn (tgt := 108) hx hb dX12_nameOf_1 (by rw [c18]; decide) (by rw [c18]; decide) (by rw [c18]; rfl) (by decide) ?_
                                      refine lv_iconst (v := -1) hx hb dX12_nameOf_108 (by decide) ?_
                                      exact w_iret C hw hr hf rfl dX12_nameOf_109
                                    · replace hf := ite_f hf c18
                                      by_cases c19 : a0 = 118
                                      · replace hf := ite_t hf c19
                                        refine lv_tableIn (tgt := 108) hx hb dX12_nameOf_1 (by rw [c19]; decide) (by rw [c19]; decide) (by rw [c19]; rfl) (by decide) ?_
                                        refine lv_iconst (v := -1) hx hb dX12_nameOf_108 (by decide) ?_
                                        exact w_iret C hw hr hf rfl dX12_nameOf_109
                                      · replace hf := ite_f hf c19
                                        by_cases c20 : a0 = 119
                                        · replace hf := ite_t hf c20
                                          refine lv_tableIn (tgt := 98) hx hb dX12_nameOf_1 (by rw [c20]; decide) (by rw [c20]; decide) (by rw [c20]; rfl) (by decide) ?_
                                          refine lv_iconst (v := 1) hx hb dX12_nameOf_98 (by decide) ?_
                                          exact w_iret C hw hr hf rfl dX12_nameOf_99
                                        · replace hf := ite_f hf c20
                                          refine lv_tableOut (tgt := 108) hx hb dX12_nameOf_1 (by have q0 := ne_toInt (a := 100) c1 (by decide); have q1 := ne_toInt (a := 101) c2 (by decide); have q2 := ne_toInt (a := 102) c3 (by decide); have q3 := ne_toInt (a := 103) c4 (by decide); have q4 := ne_toInt (a := 104) c5 (by decide); have q5 := ne_toInt (a := 105) c6 (by decide); have q6 := ne_toInt (a := 106) c7 (by decide); have q7 := ne_toInt (a := 107) c8 (by decide); have q8 := ne_toInt (a := 108) c9 (by decide); have q9 := ne_toInt (a := 109) c10 (by decide); have q10 := ne_toInt (a := 110) c11 (by decide); have q11 := ne_toInt (a := 111) c12 (by decide); have q12 := ne_toInt (a := 112) c13 (by decide); have q13 := ne_toInt (a := 113) c14 (by decide); have q14 := ne_toInt (a := 114) c15 (by decide); have q15 := ne_toInt (a := 115) c16 (by decide); have q16 := ne_toInt (a := 116) c17 (by decide); have q17 := ne_toInt (a := 117) c18 (by decide); have q18 := ne_toInt (a := 118) c19 (by decide); have q19 := ne_toInt (a := 119) c20 (by decide); omega) (by decide) ?_
                                          refine lv_iconst (v := -1) hx hb dX12_nameOf_108 (by decide) ?_
                                          exact w_iret C hw hr hf rfl dX12_nameOf_109
theorem dX12_opens_0 : decode cX12_opens 0 = .ok (.aload_n 0, 1) := by decide +kernel
theorem dX12_opens_1 : decode cX12_opens 1 = .ok (.getfield 226, 3) := by decide +kernel
theorem dX12_opens_4 : decode cX12_opens 4 = .ok (.bipush 6, 2) := by decide +kernel
theorem dX12_opens_6 : decode cX12_opens 6 = .ok (.if_icmp .ne 9, 3) := by decide +kernel
theorem dX12_opens_9 : decode cX12_opens 9 = .ok (.aload_n 0, 1) := by decide +kernel
theorem dX12_opens_10 : decode cX12_opens 10 = .ok (.invokevirtual 229, 3) := by decide +kernel
theorem dX12_opens_13 : decode cX12_opens 13 = .ok (.iconst 0, 1) := by decide +kernel
theorem dX12_opens_14 : decode cX12_opens 14 = .ok (.ireturn, 1) := by decide +kernel
theorem dX12_opens_15 : decode cX12_opens 15 = .ok (.aload_n 0, 1) := by decide +kernel
theorem dX12_opens_16 : decode cX12_opens 16 = .ok (.dup, 1) := by decide +kernel
theorem dX12_opens_17 : decode cX12_opens 17 = .ok (.getfield 226, 3) := by decide +kernel
theorem dX12_opens_20 : decode cX12_opens 20 = .ok (.iconst 1, 1) := by decide +kernel
theorem dX12_opens_21 : decode cX12_opens 21 = .ok (.iadd, 1) := by decide +kernel
theorem dX12_opens_22 : decode cX12_opens 22 = .ok (.putfield 226, 3) := by decide +kernel
theorem dX12_opens_25 : decode cX12_opens 25 = .ok (.aload_n 0, 1) := by decide +kernel
theorem dX12_opens_26 : decode cX12_opens 26 = .ok (.dup, 1) := by decide +kernel
theorem dX12_opens_27 : decode cX12_opens 27 = .ok (.getfield 217, 3) := by decide +kernel
theorem dX12_opens_30 : decode cX12_opens 30 = .ok (.iconst 1, 1) := by decide +kernel
theorem dX12_opens_31 : decode cX12_opens 31 = .ok (.iadd, 1) := by decide +kernel
theorem dX12_opens_32 : decode cX12_opens 32 = .ok (.putfield 217, 3) := by decide +kernel
theorem dX12_opens_35 : decode cX12_opens 35 = .ok (.iconst 1, 1) := by decide +kernel
theorem dX12_opens_36 : decode cX12_opens 36 = .ok (.ireturn, 1) := by decide +kernel
theorem ok_yX12_opens : yOk yX12_opens 0 := ⟨by decide +kernel, by decide +kernel, by decide +kernel⟩
def fX12_opens (st : St) : Bool × St := if gI st 0 28 = (6 : Int32) then (bnd (fX12_wrong st) (fun r6 => (false, r6))) else (bnd (sI st 0 28 ((gI st 0 28) + (1 : Int32))) (fun st2 => bnd (sI st2 0 26 ((gI st2 0 26) + (1 : Int32))) (fun st4 => (true, st4))))
set_option maxHeartbeats 4000000 in
theorem zX12_opens (l : Launch) (X : WX) (st : St)  (R : Bool × St) (hf : fX12_opens st = R) : CtI l yX12_opens cX12_opens 1 .boolean ({ frames := 1, cells := 0, slots := 0, locals := 20 }) EM 43 X [.ref (xq X 0)] st (bI R.1) R.2 := by
  refine ct_in (own := RX12) (by decide +kernel) rfl (Nat.le_of_ble_eq_true rfl) (fun p e s m below meth c C hr hw ls hl => ?_)
  obtain ⟨hx, hb, hml, hown, hts⟩ := id C.1
  have hl : lv_has ls 1 [(0, .ref (xq X 0))] := hl
  unfold fX12_opens at hf
  refine lv_aload_n hx hb dX12_opens_0 rfl (lv_at hl 0 rfl) ?_
  refine w_get (T := TX12) C hw (by decide) 28 kf_X12_226 (EM_0 X _ _) rfl inA12 (by decide) rfl dX12_opens_1 ?_
  refine lv_bipush (v := 6) hx hb dX12_opens_4 (by decide) ?_
  refine lv_icmp_ne (tgt := 15) hx hb dX12_opens_6 (by decide) (fun c1 => ?_) (fun c1 => ?_)
  · replace hf := ite_f hf c1
    refine lv_aload_n hx hb dX12_opens_15 rfl (lv_at hl 0 rfl) ?_
    refine lv_dup hx hb dX12_opens_16 rfl ?_
    refine w_get (T := TX12) C hw (by decide) 28 kf_X12_226 (EM_0 X _ _) rfl inA12 (by decide) rfl dX12_opens_17 ?_
    refine lv_iconst (v := 1) hx hb dX12_opens_20 (by decide) ?_
    refine lv_iadd hx hb dX12_opens_21 ?_
    obtain ⟨st2, es3⟩ : ∃ z : St, z = sI st 0 28 ((gI st 0 28) + (1 : Int32)) := ⟨_, rfl⟩
    replace hf := bnd_nm hf es3
    refine w_puti (T := TX12) C hw (by decide) 28 kf_X12_226 (EM_0 X _ _) rfl inA12 tyX12_ok nmX12 (by decide) rfl rfl (Nat.le_of_ble_eq_true rfl) rfl dX12_opens_22 (fun H locs hw => ?_)
    rw [← es3] at hw
    refine lv_aload_n hx hb dX12_opens_25 rfl (lv_at hl 0 rfl) ?_
    refine lv_dup hx hb dX12_opens_26 rfl ?_
    refine w_get (T := TX12) C hw (by decide) 26 kf_X12_217 (EM_0 X _ _) rfl inA12 (by decide) rfl dX12_opens_27 ?_
    refine lv_iconst (v := 1) hx hb dX12_opens_30 (by decide) ?_
    refine lv_iadd hx hb dX12_opens_31 ?_
    obtain ⟨st4, es5⟩ : ∃ z : St, z = sI st2 0 26 ((gI st2 0 26) + (1 : Int32)) := ⟨_, rfl⟩
    replace hf := bnd_nm hf es5
    refine w_puti (T := TX12) C hw (by decide) 26 kf_X12_217 (EM_0 X _ _) rfl inA12 tyX12_ok nmX12 (by decide) rfl rfl (Nat.le_of_ble_eq_true rfl) rfl dX12_opens_32 (fun H locs hw => ?_)
    rw [← es5] at hw
    refine lv_iconst (v := 1) hx hb dX12_opens_35 (by decide) ?_
    exact w_zret (b := true) C hw hr rfl (pr2 hf).1 (pr2 hf).2 dX12_opens_36
  · replace hf := ite_t hf c1
    refine lv_aload_n hx hb dX12_opens_9 rfl (lv_at hl 0 rfl) ?_
    obtain ⟨r6, k7⟩ : ∃ z : St, z = fX12_wrong st := ⟨_, rfl⟩
    replace hf := bnd_nm hf k7
    refine w_goV hw (w_runV (rest := []) C hw (zX12_wrong _ _ st r6 k7.symm) (by decide) (EM_0 X _ _) rfl km_X12_229 ki_yX12_wrong kv_X12_wrong kz_X12 kc_X12_wrong rfl ok_yX12_wrong ⟨Nat.le_of_ble_eq_true rfl, Nat.le_of_ble_eq_true rfl⟩ rfl rfl rfl rfl hl.1 (Nat.le_of_ble_eq_true rfl) dX12_opens_10 ⟨Nat.zero_le _, Nat.zero_le _⟩) (fun H locs hw => ?_)
    refine lv_iconst (v := 0) hx hb dX12_opens_13 (by decide) ?_
    exact w_zret (b := false) C hw hr rfl (pr2 hf).1 (pr2 hf).2 dX12_opens_14
theorem dX12_figure_0 : decode cX12_figure 0 = .ok (.iconst 0, 1) := by decide +kernel
theorem dX12_figure_1 : decode cX12_figure 1 = .ok (.istore_n 1, 1) := by decide +kernel
theorem dX12_figure_2 : decode cX12_figure 2 = .ok (.iconst 0, 1) := by decide +kernel
theorem dX12_figure_3 : decode cX12_figure 3 = .ok (.istore_n 2, 1) := by decide +kernel
theorem dX12_figure_4 : decode cX12_figure 4 = .ok (.iload_n 2, 1) := by decide +kernel
theorem dX12_figure_5 : decode cX12_figure 5 = .ok (.iconst 4, 1) := by decide +kernel
theorem dX12_figure_6 : decode cX12_figure 6 = .ok (.if_icmp .ge 46, 3) := by decide +kernel
theorem dX12_figure_9 : decode cX12_figure 9 = .ok (.aload_n 0, 1) := by decide +kernel
theorem dX12_figure_10 : decode cX12_figure 10 = .ok (.invokevirtual 232, 3) := by decide +kernel
theorem dX12_figure_13 : decode cX12_figure 13 = .ok (.bipush 48, 2) := by decide +kernel
theorem dX12_figure_15 : decode cX12_figure 15 = .ok (.bipush 57, 2) := by decide +kernel
theorem dX12_figure_17 : decode cX12_figure 17 = .ok (.invokestatic 147, 3) := by decide +kernel
theorem dX12_figure_20 : decode cX12_figure 20 = .ok (.ifCond .eq 32, 3) := by decide +kernel
theorem dX12_figure_23 : decode cX12_figure 23 = .ok (.bipush 10, 2) := by decide +kernel
theorem dX12_figure_25 : decode cX12_figure 25 = .ok (.iload_n 1, 1) := by decide +kernel
theorem dX12_figure_26 : decode cX12_figure 26 = .ok (.imul, 1) := by decide +kernel
theorem dX12_figure_27 : decode cX12_figure 27 = .ok (.aload_n 0, 1) := by decide +kernel
theorem dX12_figure_28 : decode cX12_figure 28 = .ok (.invokevirtual 232, 3) := by decide +kernel
theorem dX12_figure_31 : decode cX12_figure 31 = .ok (.iadd, 1) := by decide +kernel
theorem dX12_figure_32 : decode cX12_figure 32 = .ok (.bipush 48, 2) := by decide +kernel
theorem dX12_figure_34 : decode cX12_figure 34 = .ok (.isub, 1) := by decide +kernel
theorem dX12_figure_35 : decode cX12_figure 35 = .ok (.istore_n 1, 1) := by decide +kernel
theorem dX12_figure_36 : decode cX12_figure 36 = .ok (.iinc 2 1, 3) := by decide +kernel
theorem dX12_figure_39 : decode cX12_figure 39 = .ok (.aload_n 0, 1) := by decide +kernel
theorem dX12_figure_40 : decode cX12_figure 40 = .ok (.dup, 1) := by decide +kernel
theorem dX12_figure_41 : decode cX12_figure 41 = .ok (.getfield 217, 3) := by decide +kernel
theorem dX12_figure_44 : decode cX12_figure 44 = .ok (.iconst 1, 1) := by decide +kernel
theorem dX12_figure_45 : decode cX12_figure 45 = .ok (.iadd, 1) := by decide +kernel
theorem dX12_figure_46 : decode cX12_figure 46 = .ok (.putfield 217, 3) := by decide +kernel
theorem dX12_figure_49 : decode cX12_figure 49 = .ok (.goto (-45), 3) := by decide +kernel
theorem dX12_figure_52 : decode cX12_figure 52 = .ok (.iload_n 2, 1) := by decide +kernel
theorem dX12_figure_53 : decode cX12_figure 53 = .ok (.ifCond .eq 17, 3) := by decide +kernel
theorem dX12_figure_56 : decode cX12_figure 56 = .ok (.aload_n 0, 1) := by decide +kernel
theorem dX12_figure_57 : decode cX12_figure 57 = .ok (.invokevirtual 232, 3) := by decide +kernel
theorem dX12_figure_60 : decode cX12_figure 60 = .ok (.bipush 48, 2) := by decide +kernel
theorem dX12_figure_62 : decode cX12_figure 62 = .ok (.bipush 57, 2) := by decide +kernel
theorem dX12_figure_64 : decode cX12_figure 64 = .ok (.invokestatic 147, 3) := by decide +kernel
theorem dX12_figure_67 : decode cX12_figure 67 = .ok (.ifCond .eq 7, 3) := by decide +kernel
theorem dX12_figure_70 : decode cX12_figure 70 = .ok (.aload_n 0, 1) := by decide +kernel
theorem dX12_figure_71 : decode cX12_figure 71 = .ok (.invokevirtual 229, 3) := by decide +kernel
theorem dX12_figure_74 : decode cX12_figure 74 = .ok (.aload_n 0, 1) := by decide +kernel
theorem dX12_figure_75 : decode cX12_figure 75 = .ok (.iconst 1, 1) := by decide +kernel
theorem dX12_figure_76 : decode cX12_figure 76 = .ok (.iload_n 1, 1) := by decide +kernel
theorem dX12_figure_77 : decode cX12_figure 77 = .ok (.invokevirtual 236, 3) := by decide +kernel
theorem dX12_figure_80 : decode cX12_figure 80 = .ok (.return_, 1) := by decide +kernel
theorem ok_yX12_figure : yOk yX12_figure 0 := ⟨by decide +kernel, by decide +kernel, by decide +kernel⟩
def fX12_figure_52 (n : Nat) (st : St) (v1 : Int32) (v2 : Int32) : Option (St) := if v2 = 0 then (bnd (fX12_wrong st) (fun r14 => (fX12_addStep r14 (1 : Int32) v1).bind (fun r16 => some r16))) else ((fX12_look st).bind (fun r18 => if bI (fX12_in r18 (48 : Int32) (57 : Int32)) = 0 then ((fX12_addStep st (1 : Int32) v1).bind (fun r21 => some r21)) else (bnd (fX12_wrong st) (fun r23 => (fX12_addStep r23 (1 : Int32) v1).bind (fun r25 => some r25)))))
set_option maxHeartbeats 4000000 in
theorem tX12_figure_52 {p : Program} {l : Launch} {e : Env} {s : State} {m : MethodId} {args : Array Value} {below : List Frame} {meth : Method} {c : Code} {X : WX} (C : Amb 43 X p s m args meth c cX12_figure 3 RX12) (hr : meth.sig.returnType = none) {R : St} {n : Nat} : ∀ (st : St) (v1 : Int32) (v2 : Int32) (H : Heap) (locs : List Loc) (ls : Array Slot), Wd EM 43 X s.heap st H locs → lv_has ls 3 [(0, .ref (xq X 0)), (1, .int v1), (2, .int v2)] → fX12_figure_52 n st v1 v2 = some R → W p l e { frames := 1, cells := 0, slots := 0, locals := 22 } s m args below meth c H locs 0 0 (QV EM 43 X R below args s) (F0 m 52 ls []) := by
  obtain ⟨hx, hb, hml, hown, hts⟩ := id C.1
  intro st v1 v2 H locs ls  hw hl hf
  unfold fX12_figure_52 at hf
  refine lv_iload_n hx hb dX12_figure_52 rfl (lv_at hl 2 rfl) ?_
  refine lv_if_eq (tgt := 70) hx hb dX12_figure_53 (by decide) (fun c13 => ?_) (fun c13 => ?_)
  · replace hf := ite_t hf c13
    refine lv_aload_n hx hb dX12_figure_70 rfl (lv_at hl 0 rfl) ?_
    obtain ⟨r14, k15⟩ : ∃ z : St, z = fX12_wrong st := ⟨_, rfl⟩
    replace hf := bnd_nm hf k15
    refine w_goV hw (w_runV (rest := []) C hw (zX12_wrong _ _ st r14 k15.symm) (by decide) (EM_0 X _ _) rfl km_X12_229 ki_yX12_wrong kv_X12_wrong kz_X12 kc_X12_wrong rfl ok_yX12_wrong ⟨Nat.le_of_ble_eq_true rfl, Nat.le_of_ble_eq_true rfl⟩ rfl rfl rfl rfl hl.1 (Nat.le_of_ble_eq_true rfl) dX12_figure_71 ⟨Nat.zero_le _, Nat.zero_le _⟩) (fun H locs hw => ?_)
    refine lv_aload_n hx hb dX12_figure_74 rfl (lv_at hl 0 rfl) ?_
    refine lv_iconst (v := 1) hx hb dX12_figure_75 (by decide) ?_
    refine lv_iload_n hx hb dX12_figure_76 rfl (lv_at hl 1 rfl) ?_
    obtain ⟨r16, k17, hf⟩ := bd_some hf
    refine w_goV hw (w_runV (rest := []) C hw (zX12_addStep _ _ r14 (1 : Int32) v1 r16 k17) (by decide) (EM_0 X _ _) rfl km_X12_236 ki_yX12_addStep kv_X12_addStep kz_X12 kc_X12_addStep rfl ok_yX12_addStep ⟨Nat.le_of_ble_eq_true rfl, Nat.le_of_ble_eq_true rfl⟩ rfl rfl rfl rfl hl.1 (Nat.le_of_ble_eq_true rfl) dX12_figure_77 ⟨Nat.zero_le _, Nat.zero_le _⟩) (fun H locs hw => ?_)
    exact w_vret C hw hr (Option.some.inj hf) dX12_figure_80
  · replace hf := ite_f hf c13
    refine lv_aload_n hx hb dX12_figure_56 rfl (lv_at hl 0 rfl) ?_
    obtain ⟨r18, k19, hf⟩ := bd_some hf
    refine w_goI hw (w_runV (rest := []) C hw (zX12_look _ _ st r18 k19) (by decide) (EM_0 X _ _) rfl km_X12_232 ki_yX12_look kv_X12_look kz_X12 kc_X12_look rfl ok_yX12_look ⟨Nat.le_of_ble_eq_true rfl, Nat.le_of_ble_eq_true rfl⟩ rfl rfl rfl rfl hl.1 (Nat.le_of_ble_eq_true rfl) dX12_figure_57 ⟨Nat.zero_le _, Nat.zero_le _⟩) (fun H locs hw => ?_)
    refine lv_bipush (v := 48) hx hb dX12_figure_60 (by decide) ?_
    refine lv_bipush (v := 57) hx hb dX12_figure_62 (by decide) ?_
    refine w_goI hw (w_runS (rest := []) C hw (zX12_in _ _ st r18 (48 : Int32) (57 : Int32)) km_X12_147 kt_yX12_in kz_X12 kc_X12_in ok_yX12_in ⟨Nat.le_of_ble_eq_true rfl, Nat.le_of_ble_eq_true rfl⟩ rfl rfl rfl rfl hl.1 (Nat.le_of_ble_eq_true rfl) dX12_figure_64 ⟨Nat.zero_le _, Nat.zero_le _⟩) (fun H locs hw => ?_)
    refine lv_if_eq (tgt := 74) hx hb dX12_figure_67 (by decide) (fun c20 => ?_) (fun c20 => ?_)
    · replace hf := ite_t hf c20
      refine lv_aload_n hx hb dX12_figure_74 rfl (lv_at hl 0 rfl) ?_
      refine lv_iconst (v := 1) hx hb dX12_figure_75 (by decide) ?_
      refine lv_iload_n hx hb dX12_figure_76 rfl (lv_at hl 1 rfl) ?_
      obtain ⟨r21, k22, hf⟩ := bd_some hf
      refine w_goV hw (w_runV (rest := []) C hw (zX12_addStep _ _ st (1 : Int32) v1 r21 k22) (by decide) (EM_0 X _ _) rfl km_X12_236 ki_yX12_addStep kv_X12_addStep kz_X12 kc_X12_addStep rfl ok_yX12_addStep ⟨Nat.le_of_ble_eq_true rfl, Nat.le_of_ble_eq_true rfl⟩ rfl rfl rfl rfl hl.1 (Nat.le_of_ble_eq_true rfl) dX12_figure_77 ⟨Nat.zero_le _, Nat.zero_le _⟩) (fun H locs hw => ?_)
      exact w_vret C hw hr (Option.some.inj hf) dX12_figure_80
    · replace hf := ite_f hf c20
      refine lv_aload_n hx hb dX12_figure_70 rfl (lv_at hl 0 rfl) ?_
      obtain ⟨r23, k24⟩ : ∃ z : St, z = fX12_wrong st := ⟨_, rfl⟩
      replace hf := bnd_nm hf k24
      refine w_goV hw (w_runV (rest := []) C hw (zX12_wrong _ _ st r23 k24.symm) (by decide) (EM_0 X _ _) rfl km_X12_229 ki_yX12_wrong kv_X12_wrong kz_X12 kc_X12_wrong rfl ok_yX12_wrong ⟨Nat.le_of_ble_eq_true rfl, Nat.le_of_ble_eq_true rfl⟩ rfl rfl rfl rfl hl.1 (Nat.le_of_ble_eq_true rfl) dX12_figure_71 ⟨Nat.zero_le _, Nat.zero_le _⟩) (fun H locs hw => ?_)
      refine lv_aload_n hx hb dX12_figure_74 rfl (lv_at hl 0 rfl) ?_
      refine lv_iconst (v := 1) hx hb dX12_figure_75 (by decide) ?_
      refine lv_iload_n hx hb dX12_figure_76 rfl (lv_at hl 1 rfl) ?_
      obtain ⟨r25, k26, hf⟩ := bd_some hf
      refine w_goV hw (w_runV (rest := []) C hw (zX12_addStep _ _ r23 (1 : Int32) v1 r25 k26) (by decide) (EM_0 X _ _) rfl km_X12_236 ki_yX12_addStep kv_X12_addStep kz_X12 kc_X12_addStep rfl ok_yX12_addStep ⟨Nat.le_of_ble_eq_true rfl, Nat.le_of_ble_eq_true rfl⟩ rfl rfl rfl rfl hl.1 (Nat.le_of_ble_eq_true rfl) dX12_figure_77 ⟨Nat.zero_le _, Nat.zero_le _⟩) (fun H locs hw => ?_)
      exact w_vret C hw hr (Option.some.inj hf) dX12_figure_80
def fX12_figure_4 (n : Nat) : Nat → St → Int32 → Int32 → Option (St)
  | 0, _, _, _ => none
  | k + 1, st, v1, v2 => if (4 : Int32) ≤ v2 then (fX12_figure_52 n st v1 v2) else ((fX12_look st).bind (fun r2 => if bI (fX12_in r2 (48 : Int32) (57 : Int32)) = 0 then (fX12_figure_52 n st v1 v2) else ((fX12_look st).bind (fun r5 => bnd ((((10 : Int32) * v1) + r5) - (48 : Int32)) (fun x7 => bnd (v2 + (1 : Int32)) (fun x9 => bnd (sI st 0 26 ((gI st 0 26) + (1 : Int32))) (fun st11 => fX12_figure_4 n k st11 x7 x9)))))))
set_option maxHeartbeats 4000000 in
theorem tX12_figure_4 {p : Program} {l : Launch} {e : Env} {s : State} {m : MethodId} {args : Array Value} {below : List Frame} {meth : Method} {c : Code} {X : WX} (C : Amb 43 X p s m args meth c cX12_figure 3 RX12) (hr : meth.sig.returnType = none) {R : St} {n : Nat} : ∀ (k : Nat) (st : St) (v1 : Int32) (v2 : Int32) (H : Heap) (locs : List Loc) (ls : Array Slot), Wd EM 43 X s.heap st H locs → lv_has ls 3 [(0, .ref (xq X 0)), (1, .int v1), (2, .int v2)] → fX12_figure_4 n k st v1 v2 = some R → W p l e { frames := 1, cells := 0, slots := 0, locals := 22 } s m args below meth c H locs 0 0 (QV EM 43 X R below args s) (F0 m 4 ls []) := by
  obtain ⟨hx, hb, hml, hown, hts⟩ := id C.1
  intro k
  induction k with
  | zero => intro st v1 v2 H locs ls  hw hl hf; exact absurd (show none = some R from hf) (fun z => by cases z)
  | succ k ih =>
    intro st v1 v2 H locs ls  hw hl hf
    rw [fX12_figure_4] at hf
    refine lv_iload_n hx hb dX12_figure_4 rfl (lv_at hl 2 rfl) ?_
    refine lv_iconst (v := 4) hx hb dX12_figure_5 (by decide) ?_
    refine lv_icmp_ge (tgt := 52) hx hb dX12_figure_6 (by decide) (fun c1 => ?_) (fun c1 => ?_)
    · replace hf := ite_t hf c1
      exact tX12_figure_52 C hr st v1 v2 _ _ _ hw (lv_sub hl [0, 1, 2] rfl) hf
    · replace hf := ite_f hf c1
      refine lv_aload_n hx hb dX12_figure_9 rfl (lv_at hl 0 rfl) ?_
      obtain ⟨r2, k3, hf⟩ := bd_some hf
      refine w_goI hw (w_runV (rest := []) C hw (zX12_look _ _ st r2 k3) (by decide) (EM_0 X _ _) rfl km_X12_232 ki_yX12_look kv_X12_look kz_X12 kc_X12_look rfl ok_yX12_look ⟨Nat.le_of_ble_eq_true rfl, Nat.le_of_ble_eq_true rfl⟩ rfl rfl rfl rfl hl.1 (Nat.le_of_ble_eq_true rfl) dX12_figure_10 ⟨Nat.zero_le _, Nat.zero_le _⟩) (fun H locs hw => ?_)
      refine lv_bipush (v := 48) hx hb dX12_figure_13 (by decide) ?_
      refine lv_bipush (v := 57) hx hb dX12_figure_15 (by decide) ?_
      refine w_goI hw (w_runS (rest := []) C hw (zX12_in _ _ st r2 (48 : Int32) (57 : Int32)) km_X12_147 kt_yX12_in kz_X12 kc_X12_in ok_yX12_in ⟨Nat.le_of_ble_eq_true rfl, Nat.le_of_ble_eq_true rfl⟩ rfl rfl rfl rfl hl.1 (Nat.le_of_ble_eq_true rfl) dX12_figure_17 ⟨Nat.zero_le _, Nat.zero_le _⟩) (fun H locs hw => ?_)
      refine lv_if_eq (tgt := 52) hx hb dX12_figure_20 (by decide) (fun c4 => ?_) (fun c4 => ?_)
      · replace hf := ite_t hf c4
        exact tX12_figure_52 C hr st v1 v2 _ _ _ hw (lv_sub hl [0, 1, 2] rfl) hf
      · replace hf := ite_f hf c4
        refine lv_bipush (v := 10) hx hb dX12_figure_23 (by decide) ?_
        refine lv_iload_n hx hb dX12_figure_25 rfl (lv_at hl 1 rfl) ?_
        refine lv_imul hx hb dX12_figure_26 ?_
        refine lv_aload_n hx hb dX12_figure_27 rfl (lv_at hl 0 rfl) ?_
        obtain ⟨r5, k6, hf⟩ := bd_some hf
        refine w_goI hw (w_runV (rest := [.int ((10 : Int32) * v1)]) C hw (zX12_look _ _ st r5 k6) (by decide) (EM_0 X _ _) rfl km_X12_232 ki_yX12_look kv_X12_look kz_X12 kc_X12_look rfl ok_yX12_look ⟨Nat.le_of_ble_eq_true rfl, Nat.le_of_ble_eq_true rfl⟩ rfl rfl rfl rfl hl.1 (Nat.le_of_ble_eq_true rfl) dX12_figure_28 ⟨Nat.zero_le _, Nat.zero_le _⟩) (fun H locs hw => ?_)
        refine lv_iadd hx hb dX12_figure_31 ?_
        refine lv_bipush (v := 48) hx hb dX12_figure_32 (by decide) ?_
        refine lv_isub hx hb dX12_figure_34 ?_
        refine lv_topi (fun x7 e8 => ?_)
        replace hf := bnd_nm hf e8
        refine lv_istore_n (lv' := [(1, .int x7), (0, .ref (xq X 0)), (2, .int v2)]) hx hb dX12_figure_35 rfl hl (by decide) rfl (fun ls hl => ?_)
        obtain ⟨x9, e10⟩ : ∃ z : Int32, z = v2 + (1 : Int32) := ⟨_, rfl⟩
        replace hf := bnd_nm hf e10
        refine lv_iinc (v := x9) (lv' := [(2, .int x9), (1, .int x7), (0, .ref (xq X 0))]) hx hb dX12_figure_36 hl (k := 2) rfl (by rw [e10]; rfl) (by decide) rfl (fun ls hl => ?_)
        refine lv_aload_n hx hb dX12_figure_39 rfl (lv_at hl 2 rfl) ?_
        refine lv_dup hx hb dX12_figure_40 rfl ?_
        refine w_get (T := TX12) C hw (by decide) 26 kf_X12_217 (EM_0 X _ _) rfl inA12 (by decide) rfl dX12_figure_41 ?_
        refine lv_iconst (v := 1) hx hb dX12_figure_44 (by decide) ?_
        refine lv_iadd hx hb dX12_figure_45 ?_
        obtain ⟨st11, es12⟩ : ∃ z : St, z = sI st 0 26 ((gI st 0 26) + (1 : Int32)) := ⟨_, rfl⟩
        replace hf := bnd_nm hf es12
        refine w_puti (T := TX12) C hw (by decide) 26 kf_X12_217 (EM_0 X _ _) rfl inA12 tyX12_ok nmX12 (by decide) rfl rfl (Nat.le_of_ble_eq_true rfl) rfl dX12_figure_46 (fun H locs hw => ?_)
        rw [← es12] at hw
        refine lv_goto (tgt := 4) hx hb dX12_figure_49 (by decide) ?_
        exact ih st11 x7 x9 _ _ _ hw (lv_sub hl [2, 1, 0] rfl) hf
def fX12_figure (n : Nat) (st : St) : Option (St) := fX12_figure_4 n n st (0 : Int32) (0 : Int32)
set_option maxHeartbeats 4000000 in
theorem zX12_figure (l : Launch) (X : WX) (n : Nat) (st : St)  (R : St) (hf : fX12_figure n st = some R) : CtV l yX12_figure cX12_figure 3 ({ frames := 1, cells := 0, slots := 0, locals := 22 }) EM 43 X [.ref (xq X 0)] st R := by
  refine ct_in (own := RX12) (by decide +kernel) rfl (Nat.le_of_ble_eq_true rfl) (fun p e s m below meth c C hr hw ls hl => ?_)
  obtain ⟨hx, hb, hml, hown, hts⟩ := id C.1
  have hl : lv_has ls 3 [(0, .ref (xq X 0))] := hl
  unfold fX12_figure at hf
  refine lv_iconst (v := 0) hx hb dX12_figure_0 (by decide) ?_
  refine lv_istore_n (lv' := [(1, .int (0 : Int32)), (0, .ref (xq X 0))]) hx hb dX12_figure_1 rfl hl (by decide) rfl (fun ls hl => ?_)
  refine lv_iconst (v := 0) hx hb dX12_figure_2 (by decide) ?_
  refine lv_istore_n (lv' := [(2, .int (0 : Int32)), (1, .int (0 : Int32)), (0, .ref (xq X 0))]) hx hb dX12_figure_3 rfl hl (by decide) rfl (fun ls hl => ?_)
  exact tX12_figure_4 C hr n st (0 : Int32) (0 : Int32) _ _ _ hw (lv_sub hl [2, 1, 0] rfl) hf
theorem dX12_operand_0 : decode cX12_operand 0 = .ok (.aload_n 0, 1) := by decide +kernel
theorem dX12_operand_1 : decode cX12_operand 1 = .ok (.invokevirtual 232, 3) := by decide +kernel
theorem dX12_operand_4 : decode cX12_operand 4 = .ok (.istore_n 1, 1) := by decide +kernel
theorem dX12_operand_5 : decode cX12_operand 5 = .ok (.iload_n 1, 1) := by decide +kernel
theorem dX12_operand_6 : decode cX12_operand 6 = .ok (.invokestatic 240, 3) := by decide +kernel
theorem dX12_operand_9 : decode cX12_operand 9 = .ok (.ifCond .lt 25, 3) := by decide +kernel
theorem dX12_operand_12 : decode cX12_operand 12 = .ok (.aload_n 0, 1) := by decide +kernel
theorem dX12_operand_13 : decode cX12_operand 13 = .ok (.iconst 2, 1) := by decide +kernel
theorem dX12_operand_14 : decode cX12_operand 14 = .ok (.iload_n 1, 1) := by decide +kernel
theorem dX12_operand_15 : decode cX12_operand 15 = .ok (.invokestatic 240, 3) := by decide +kernel
theorem dX12_operand_18 : decode cX12_operand 18 = .ok (.invokevirtual 236, 3) := by decide +kernel
theorem dX12_operand_21 : decode cX12_operand 21 = .ok (.aload_n 0, 1) := by decide +kernel
theorem dX12_operand_22 : decode cX12_operand 22 = .ok (.dup, 1) := by decide +kernel
theorem dX12_operand_23 : decode cX12_operand 23 = .ok (.getfield 217, 3) := by decide +kernel
theorem dX12_operand_26 : decode cX12_operand 26 = .ok (.iconst 1, 1) := by decide +kernel
theorem dX12_operand_27 : decode cX12_operand 27 = .ok (.iadd, 1) := by decide +kernel
theorem dX12_operand_28 : decode cX12_operand 28 = .ok (.putfield 217, 3) := by decide +kernel
theorem dX12_operand_31 : decode cX12_operand 31 = .ok (.goto 123, 3) := by decide +kernel
theorem dX12_operand_34 : decode cX12_operand 34 = .ok (.iload_n 1, 1) := by decide +kernel
theorem dX12_operand_35 : decode cX12_operand 35 = .ok (.bipush 33, 2) := by decide +kernel
theorem dX12_operand_37 : decode cX12_operand 37 = .ok (.if_icmp .eq 9, 3) := by decide +kernel
theorem dX12_operand_40 : decode cX12_operand 40 = .ok (.iload_n 1, 1) := by decide +kernel
theorem dX12_operand_41 : decode cX12_operand 41 = .ok (.bipush 45, 2) := by decide +kernel
theorem dX12_operand_43 : decode cX12_operand 43 = .ok (.if_icmp .ne 44, 3) := by decide +kernel
theorem dX12_operand_46 : decode cX12_operand 46 = .ok (.aload_n 0, 1) := by decide +kernel
theorem dX12_operand_47 : decode cX12_operand 47 = .ok (.invokevirtual 244, 3) := by decide +kernel
theorem dX12_operand_50 : decode cX12_operand 50 = .ok (.ifCond .ne 4, 3) := by decide +kernel
theorem dX12_operand_53 : decode cX12_operand 53 = .ok (.return_, 1) := by decide +kernel
theorem dX12_operand_54 : decode cX12_operand 54 = .ok (.aload_n 0, 1) := by decide +kernel
theorem dX12_operand_55 : decode cX12_operand 55 = .ok (.invokevirtual 248, 3) := by decide +kernel
theorem dX12_operand_58 : decode cX12_operand 58 = .ok (.aload_n 0, 1) := by decide +kernel
theorem dX12_operand_59 : decode cX12_operand 59 = .ok (.dup, 1) := by decide +kernel
theorem dX12_operand_60 : decode cX12_operand 60 = .ok (.getfield 226, 3) := by decide +kernel
theorem dX12_operand_63 : decode cX12_operand 63 = .ok (.iconst 1, 1) := by decide +kernel
theorem dX12_operand_64 : decode cX12_operand 64 = .ok (.isub, 1) := by decide +kernel
theorem dX12_operand_65 : decode cX12_operand 65 = .ok (.putfield 226, 3) := by decide +kernel
theorem dX12_operand_68 : decode cX12_operand 68 = .ok (.aload_n 0, 1) := by decide +kernel
theorem dX12_operand_69 : decode cX12_operand 69 = .ok (.iload_n 1, 1) := by decide +kernel
theorem dX12_operand_70 : decode cX12_operand 70 = .ok (.bipush 33, 2) := by decide +kernel
theorem dX12_operand_72 : decode cX12_operand 72 = .ok (.if_icmp .ne 7, 3) := by decide +kernel
theorem dX12_operand_75 : decode cX12_operand 75 = .ok (.iconst 3, 1) := by decide +kernel
theorem dX12_operand_76 : decode cX12_operand 76 = .ok (.goto 4, 3) := by decide +kernel
theorem dX12_operand_79 : decode cX12_operand 79 = .ok (.iconst 4, 1) := by decide +kernel
theorem dX12_operand_80 : decode cX12_operand 80 = .ok (.iconst 0, 1) := by decide +kernel
theorem dX12_operand_81 : decode cX12_operand 81 = .ok (.invokevirtual 236, 3) := by decide +kernel
theorem dX12_operand_84 : decode cX12_operand 84 = .ok (.goto 70, 3) := by decide +kernel
theorem dX12_operand_87 : decode cX12_operand 87 = .ok (.iload_n 1, 1) := by decide +kernel
theorem dX12_operand_88 : decode cX12_operand 88 = .ok (.bipush 40, 2) := by decide +kernel
theorem dX12_operand_90 : decode cX12_operand 90 = .ok (.if_icmp .ne 60, 3) := by decide +kernel
theorem dX12_operand_93 : decode cX12_operand 93 = .ok (.aload_n 0, 1) := by decide +kernel
theorem dX12_operand_94 : decode cX12_operand 94 = .ok (.invokevirtual 244, 3) := by decide +kernel
theorem dX12_operand_97 : decode cX12_operand 97 = .ok (.ifCond .ne 4, 3) := by decide +kernel
theorem dX12_operand_100 : decode cX12_operand 100 = .ok (.return_, 1) := by decide +kernel
theorem dX12_operand_101 : decode cX12_operand 101 = .ok (.aload_n 0, 1) := by decide +kernel
theorem dX12_operand_102 : decode cX12_operand 102 = .ok (.invokevirtual 251, 3) := by decide +kernel
theorem dX12_operand_105 : decode cX12_operand 105 = .ok (.aload_n 0, 1) := by decide +kernel
theorem dX12_operand_106 : decode cX12_operand 106 = .ok (.getfield 220, 3) := by decide +kernel
theorem dX12_operand_109 : decode cX12_operand 109 = .ok (.ifCond .lt 4, 3) := by decide +kernel
theorem dX12_operand_112 : decode cX12_operand 112 = .ok (.return_, 1) := by decide +kernel
theorem dX12_operand_113 : decode cX12_operand 113 = .ok (.aload_n 0, 1) := by decide +kernel
theorem dX12_operand_114 : decode cX12_operand 114 = .ok (.invokevirtual 232, 3) := by decide +kernel
theorem dX12_operand_117 : decode cX12_operand 117 = .ok (.bipush 41, 2) := by decide +kernel
theorem dX12_operand_119 : decode cX12_operand 119 = .ok (.if_icmp .eq 8, 3) := by decide +kernel
theorem dX12_operand_122 : decode cX12_operand 122 = .ok (.aload_n 0, 1) := by decide +kernel
theorem dX12_operand_123 : decode cX12_operand 123 = .ok (.invokevirtual 229, 3) := by decide +kernel
theorem dX12_operand_126 : decode cX12_operand 126 = .ok (.return_, 1) := by decide +kernel
theorem dX12_operand_127 : decode cX12_operand 127 = .ok (.aload_n 0, 1) := by decide +kernel
theorem dX12_operand_128 : decode cX12_operand 128 = .ok (.dup, 1) := by decide +kernel
theorem dX12_operand_129 : decode cX12_operand 129 = .ok (.getfield 217, 3) := by decide +kernel
theorem dX12_operand_132 : decode cX12_operand 132 = .ok (.iconst 1, 1) := by decide +kernel
theorem dX12_operand_133 : decode cX12_operand 133 = .ok (.iadd, 1) := by decide +kernel
theorem dX12_operand_134 : decode cX12_operand 134 = .ok (.putfield 217, 3) := by decide +kernel
theorem dX12_operand_137 : decode cX12_operand 137 = .ok (.aload_n 0, 1) := by decide +kernel
theorem dX12_operand_138 : decode cX12_operand 138 = .ok (.dup, 1) := by decide +kernel
theorem dX12_operand_139 : decode cX12_operand 139 = .ok (.getfield 226, 3) := by decide +kernel
theorem dX12_operand_142 : decode cX12_operand 142 = .ok (.iconst 1, 1) := by decide +kernel
theorem dX12_operand_143 : decode cX12_operand 143 = .ok (.isub, 1) := by decide +kernel
theorem dX12_operand_144 : decode cX12_operand 144 = .ok (.putfield 226, 3) := by decide +kernel
theorem dX12_operand_147 : decode cX12_operand 147 = .ok (.goto 7, 3) := by decide +kernel
theorem dX12_operand_150 : decode cX12_operand 150 = .ok (.aload_n 0, 1) := by decide +kernel
theorem dX12_operand_151 : decode cX12_operand 151 = .ok (.invokevirtual 254, 3) := by decide +kernel
theorem dX12_operand_154 : decode cX12_operand 154 = .ok (.return_, 1) := by decide +kernel
theorem dX12_product_0 : decode cX12_product 0 = .ok (.aload_n 0, 1) := by decide +kernel
theorem dX12_product_1 : decode cX12_product 1 = .ok (.invokevirtual 248, 3) := by decide +kernel
theorem dX12_product_4 : decode cX12_product 4 = .ok (.aload_n 0, 1) := by decide +kernel
theorem dX12_product_5 : decode cX12_product 5 = .ok (.getfield 220, 3) := by decide +kernel
theorem dX12_product_8 : decode cX12_product 8 = .ok (.ifCond .ge 58, 3) := by decide +kernel
theorem dX12_product_11 : decode cX12_product 11 = .ok (.aload_n 0, 1) := by decide +kernel
theorem dX12_product_12 : decode cX12_product 12 = .ok (.invokevirtual 232, 3) := by decide +kernel
theorem dX12_product_15 : decode cX12_product 15 = .ok (.bipush 42, 2) := by decide +kernel
theorem dX12_product_17 : decode cX12_product 17 = .ok (.if_icmp .eq 21, 3) := by decide +kernel
theorem dX12_product_20 : decode cX12_product 20 = .ok (.aload_n 0, 1) := by decide +kernel
theorem dX12_product_21 : decode cX12_product 21 = .ok (.invokevirtual 232, 3) := by decide +kernel
theorem dX12_product_24 : decode cX12_product 24 = .ok (.bipush 47, 2) := by decide +kernel
theorem dX12_product_26 : decode cX12_product 26 = .ok (.if_icmp .eq 12, 3) := by decide +kernel
theorem dX12_product_29 : decode cX12_product 29 = .ok (.aload_n 0, 1) := by decide +kernel
theorem dX12_product_30 : decode cX12_product 30 = .ok (.invokevirtual 232, 3) := by decide +kernel
theorem dX12_product_33 : decode cX12_product 33 = .ok (.bipush 37, 2) := by decide +kernel
theorem dX12_product_35 : decode cX12_product 35 = .ok (.if_icmp .ne 31, 3) := by decide +kernel
theorem dX12_product_38 : decode cX12_product 38 = .ok (.aload_n 0, 1) := by decide +kernel
theorem dX12_product_39 : decode cX12_product 39 = .ok (.invokevirtual 232, 3) := by decide +kernel
theorem dX12_product_42 : decode cX12_product 42 = .ok (.istore_n 1, 1) := by decide +kernel
theorem dX12_product_43 : decode cX12_product 43 = .ok (.aload_n 0, 1) := by decide +kernel
theorem dX12_product_44 : decode cX12_product 44 = .ok (.dup, 1) := by decide +kernel
theorem dX12_product_45 : decode cX12_product 45 = .ok (.getfield 217, 3) := by decide +kernel
theorem dX12_product_48 : decode cX12_product 48 = .ok (.iconst 1, 1) := by decide +kernel
theorem dX12_product_49 : decode cX12_product 49 = .ok (.iadd, 1) := by decide +kernel
theorem dX12_product_50 : decode cX12_product 50 = .ok (.putfield 217, 3) := by decide +kernel
theorem dX12_product_53 : decode cX12_product 53 = .ok (.aload_n 0, 1) := by decide +kernel
theorem dX12_product_54 : decode cX12_product 54 = .ok (.invokevirtual 248, 3) := by decide +kernel
theorem dX12_product_57 : decode cX12_product 57 = .ok (.aload_n 0, 1) := by decide +kernel
theorem dX12_product_58 : decode cX12_product 58 = .ok (.iload_n 1, 1) := by decide +kernel
theorem dX12_product_59 : decode cX12_product 59 = .ok (.iconst 0, 1) := by decide +kernel
theorem dX12_product_60 : decode cX12_product 60 = .ok (.invokevirtual 236, 3) := by decide +kernel
theorem dX12_product_63 : decode cX12_product 63 = .ok (.goto (-59), 3) := by decide +kernel
theorem dX12_product_66 : decode cX12_product 66 = .ok (.return_, 1) := by decide +kernel
theorem dX12_sum_0 : decode cX12_sum 0 = .ok (.aload_n 0, 1) := by decide +kernel
theorem dX12_sum_1 : decode cX12_sum 1 = .ok (.invokevirtual 257, 3) := by decide +kernel
theorem dX12_sum_4 : decode cX12_sum 4 = .ok (.aload_n 0, 1) := by decide +kernel
theorem dX12_sum_5 : decode cX12_sum 5 = .ok (.getfield 220, 3) := by decide +kernel
theorem dX12_sum_8 : decode cX12_sum 8 = .ok (.ifCond .ge 49, 3) := by decide +kernel
theorem dX12_sum_11 : decode cX12_sum 11 = .ok (.aload_n 0, 1) := by decide +kernel
theorem dX12_sum_12 : decode cX12_sum 12 = .ok (.invokevirtual 232, 3) := by decide +kernel
theorem dX12_sum_15 : decode cX12_sum 15 = .ok (.bipush 43, 2) := by decide +kernel
theorem dX12_sum_17 : decode cX12_sum 17 = .ok (.if_icmp .eq 12, 3) := by decide +kernel
theorem dX12_sum_20 : decode cX12_sum 20 = .ok (.aload_n 0, 1) := by decide +kernel
theorem dX12_sum_21 : decode cX12_sum 21 = .ok (.invokevirtual 232, 3) := by decide +kernel
theorem dX12_sum_24 : decode cX12_sum 24 = .ok (.bipush 45, 2) := by decide +kernel
theorem dX12_sum_26 : decode cX12_sum 26 = .ok (.if_icmp .ne 31, 3) := by decide +kernel
theorem dX12_sum_29 : decode cX12_sum 29 = .ok (.aload_n 0, 1) := by decide +kernel
theorem dX12_sum_30 : decode cX12_sum 30 = .ok (.invokevirtual 232, 3) := by decide +kernel
theorem dX12_sum_33 : decode cX12_sum 33 = .ok (.istore_n 1, 1) := by decide +kernel
theorem dX12_sum_34 : decode cX12_sum 34 = .ok (.aload_n 0, 1) := by decide +kernel
theorem dX12_sum_35 : decode cX12_sum 35 = .ok (.dup, 1) := by decide +kernel
theorem dX12_sum_36 : decode cX12_sum 36 = .ok (.getfield 217, 3) := by decide +kernel
theorem dX12_sum_39 : decode cX12_sum 39 = .ok (.iconst 1, 1) := by decide +kernel
theorem dX12_sum_40 : decode cX12_sum 40 = .ok (.iadd, 1) := by decide +kernel
theorem dX12_sum_41 : decode cX12_sum 41 = .ok (.putfield 217, 3) := by decide +kernel
theorem dX12_sum_44 : decode cX12_sum 44 = .ok (.aload_n 0, 1) := by decide +kernel
theorem dX12_sum_45 : decode cX12_sum 45 = .ok (.invokevirtual 257, 3) := by decide +kernel
theorem dX12_sum_48 : decode cX12_sum 48 = .ok (.aload_n 0, 1) := by decide +kernel
theorem dX12_sum_49 : decode cX12_sum 49 = .ok (.iload_n 1, 1) := by decide +kernel
theorem dX12_sum_50 : decode cX12_sum 50 = .ok (.iconst 0, 1) := by decide +kernel
theorem dX12_sum_51 : decode cX12_sum 51 = .ok (.invokevirtual 236, 3) := by decide +kernel
theorem dX12_sum_54 : decode cX12_sum 54 = .ok (.goto (-50), 3) := by decide +kernel
theorem dX12_sum_57 : decode cX12_sum 57 = .ok (.return_, 1) := by decide +kernel
theorem dX12_compared_0 : decode cX12_compared 0 = .ok (.aload_n 0, 1) := by decide +kernel
theorem dX12_compared_1 : decode cX12_compared 1 = .ok (.invokevirtual 260, 3) := by decide +kernel
theorem dX12_compared_4 : decode cX12_compared 4 = .ok (.aload_n 0, 1) := by decide +kernel
theorem dX12_compared_5 : decode cX12_compared 5 = .ok (.invokevirtual 232, 3) := by decide +kernel
theorem dX12_compared_8 : decode cX12_compared 8 = .ok (.istore_n 1, 1) := by decide +kernel
theorem dX12_compared_9 : decode cX12_compared 9 = .ok (.aload_n 0, 1) := by decide +kernel
theorem dX12_compared_10 : decode cX12_compared 10 = .ok (.getfield 220, 3) := by decide +kernel
theorem dX12_compared_13 : decode cX12_compared 13 = .ok (.ifCond .ge 21, 3) := by decide +kernel
theorem dX12_compared_16 : decode cX12_compared 16 = .ok (.iload_n 1, 1) := by decide +kernel
theorem dX12_compared_17 : decode cX12_compared 17 = .ok (.bipush 60, 2) := by decide +kernel
theorem dX12_compared_19 : decode cX12_compared 19 = .ok (.if_icmp .eq 16, 3) := by decide +kernel
theorem dX12_compared_22 : decode cX12_compared 22 = .ok (.iload_n 1, 1) := by decide +kernel
theorem dX12_compared_23 : decode cX12_compared 23 = .ok (.bipush 61, 2) := by decide +kernel
theorem dX12_compared_25 : decode cX12_compared 25 = .ok (.if_icmp .eq 10, 3) := by decide +kernel
theorem dX12_compared_28 : decode cX12_compared 28 = .ok (.iload_n 1, 1) := by decide +kernel
theorem dX12_compared_29 : decode cX12_compared 29 = .ok (.bipush 62, 2) := by decide +kernel
theorem dX12_compared_31 : decode cX12_compared 31 = .ok (.if_icmp .eq 4, 3) := by decide +kernel
theorem dX12_compared_34 : decode cX12_compared 34 = .ok (.return_, 1) := by decide +kernel
theorem dX12_compared_35 : decode cX12_compared 35 = .ok (.aload_n 0, 1) := by decide +kernel
theorem dX12_compared_36 : decode cX12_compared 36 = .ok (.dup, 1) := by decide +kernel
theorem dX12_compared_37 : decode cX12_compared 37 = .ok (.getfield 217, 3) := by decide +kernel
theorem dX12_compared_40 : decode cX12_compared 40 = .ok (.iconst 1, 1) := by decide +kernel
theorem dX12_compared_41 : decode cX12_compared 41 = .ok (.iadd, 1) := by decide +kernel
theorem dX12_compared_42 : decode cX12_compared 42 = .ok (.putfield 217, 3) := by decide +kernel
theorem dX12_compared_45 : decode cX12_compared 45 = .ok (.aload_n 0, 1) := by decide +kernel
theorem dX12_compared_46 : decode cX12_compared 46 = .ok (.invokevirtual 260, 3) := by decide +kernel
theorem dX12_compared_49 : decode cX12_compared 49 = .ok (.aload_n 0, 1) := by decide +kernel
theorem dX12_compared_50 : decode cX12_compared 50 = .ok (.iload_n 1, 1) := by decide +kernel
theorem dX12_compared_51 : decode cX12_compared 51 = .ok (.iconst 0, 1) := by decide +kernel
theorem dX12_compared_52 : decode cX12_compared 52 = .ok (.invokevirtual 236, 3) := by decide +kernel
theorem dX12_compared_55 : decode cX12_compared 55 = .ok (.return_, 1) := by decide +kernel
theorem dX12_both_0 : decode cX12_both 0 = .ok (.aload_n 0, 1) := by decide +kernel
theorem dX12_both_1 : decode cX12_both 1 = .ok (.invokevirtual 263, 3) := by decide +kernel
theorem dX12_both_4 : decode cX12_both 4 = .ok (.aload_n 0, 1) := by decide +kernel
theorem dX12_both_5 : decode cX12_both 5 = .ok (.getfield 220, 3) := by decide +kernel
theorem dX12_both_8 : decode cX12_both 8 = .ok (.ifCond .ge 36, 3) := by decide +kernel
theorem dX12_both_11 : decode cX12_both 11 = .ok (.aload_n 0, 1) := by decide +kernel
theorem dX12_both_12 : decode cX12_both 12 = .ok (.invokevirtual 232, 3) := by decide +kernel
theorem dX12_both_15 : decode cX12_both 15 = .ok (.bipush 38, 2) := by decide +kernel
theorem dX12_both_17 : decode cX12_both 17 = .ok (.if_icmp .ne 27, 3) := by decide +kernel
theorem dX12_both_20 : decode cX12_both 20 = .ok (.aload_n 0, 1) := by decide +kernel
theorem dX12_both_21 : decode cX12_both 21 = .ok (.dup, 1) := by decide +kernel
theorem dX12_both_22 : decode cX12_both 22 = .ok (.getfield 217, 3) := by decide +kernel
theorem dX12_both_25 : decode cX12_both 25 = .ok (.iconst 1, 1) := by decide +kernel
theorem dX12_both_26 : decode cX12_both 26 = .ok (.iadd, 1) := by decide +kernel
theorem dX12_both_27 : decode cX12_both 27 = .ok (.putfield 217, 3) := by decide +kernel
theorem dX12_both_30 : decode cX12_both 30 = .ok (.aload_n 0, 1) := by decide +kernel
theorem dX12_both_31 : decode cX12_both 31 = .ok (.invokevirtual 263, 3) := by decide +kernel
theorem dX12_both_34 : decode cX12_both 34 = .ok (.aload_n 0, 1) := by decide +kernel
theorem dX12_both_35 : decode cX12_both 35 = .ok (.bipush 38, 2) := by decide +kernel
theorem dX12_both_37 : decode cX12_both 37 = .ok (.iconst 0, 1) := by decide +kernel
theorem dX12_both_38 : decode cX12_both 38 = .ok (.invokevirtual 236, 3) := by decide +kernel
theorem dX12_both_41 : decode cX12_both 41 = .ok (.goto (-37), 3) := by decide +kernel
theorem dX12_both_44 : decode cX12_both 44 = .ok (.return_, 1) := by decide +kernel
theorem dX12_either_0 : decode cX12_either 0 = .ok (.aload_n 0, 1) := by decide +kernel
theorem dX12_either_1 : decode cX12_either 1 = .ok (.invokevirtual 266, 3) := by decide +kernel
theorem dX12_either_4 : decode cX12_either 4 = .ok (.aload_n 0, 1) := by decide +kernel
theorem dX12_either_5 : decode cX12_either 5 = .ok (.getfield 220, 3) := by decide +kernel
theorem dX12_either_8 : decode cX12_either 8 = .ok (.ifCond .ge 36, 3) := by decide +kernel
theorem dX12_either_11 : decode cX12_either 11 = .ok (.aload_n 0, 1) := by decide +kernel
theorem dX12_either_12 : decode cX12_either 12 = .ok (.invokevirtual 232, 3) := by decide +kernel
theorem dX12_either_15 : decode cX12_either 15 = .ok (.bipush 124, 2) := by decide +kernel
theorem dX12_either_17 : decode cX12_either 17 = .ok (.if_icmp .ne 27, 3) := by decide +kernel
theorem dX12_either_20 : decode cX12_either 20 = .ok (.aload_n 0, 1) := by decide +kernel
theorem dX12_either_21 : decode cX12_either 21 = .ok (.dup, 1) := by decide +kernel
theorem dX12_either_22 : decode cX12_either 22 = .ok (.getfield 217, 3) := by decide +kernel
theorem dX12_either_25 : decode cX12_either 25 = .ok (.iconst 1, 1) := by decide +kernel
theorem dX12_either_26 : decode cX12_either 26 = .ok (.iadd, 1) := by decide +kernel
theorem dX12_either_27 : decode cX12_either 27 = .ok (.putfield 217, 3) := by decide +kernel
theorem dX12_either_30 : decode cX12_either 30 = .ok (.aload_n 0, 1) := by decide +kernel
theorem dX12_either_31 : decode cX12_either 31 = .ok (.invokevirtual 266, 3) := by decide +kernel
theorem dX12_either_34 : decode cX12_either 34 = .ok (.aload_n 0, 1) := by decide +kernel
theorem dX12_either_35 : decode cX12_either 35 = .ok (.bipush 124, 2) := by decide +kernel
theorem dX12_either_37 : decode cX12_either 37 = .ok (.iconst 0, 1) := by decide +kernel
theorem dX12_either_38 : decode cX12_either 38 = .ok (.invokevirtual 236, 3) := by decide +kernel
theorem dX12_either_41 : decode cX12_either 41 = .ok (.goto (-37), 3) := by decide +kernel
theorem dX12_either_44 : decode cX12_either 44 = .ok (.return_, 1) := by decide +kernel
theorem ok_yX12_operand : yOk yX12_operand 0 := ⟨by decide +kernel, by decide +kernel, by decide +kernel⟩
theorem ok_yX12_product : yOk yX12_product 0 := ⟨by decide +kernel, by decide +kernel, by decide +kernel⟩
theorem ok_yX12_sum : yOk yX12_sum 0 := ⟨by decide +kernel, by decide +kernel, by decide +kernel⟩
theorem ok_yX12_compared : yOk yX12_compared 0 := ⟨by decide +kernel, by decide +kernel, by decide +kernel⟩
theorem ok_yX12_both : yOk yX12_both 0 := ⟨by decide +kernel, by decide +kernel, by decide +kernel⟩
theorem ok_yX12_either : yOk yX12_either 0 := ⟨by decide +kernel, by decide +kernel, by decide +kernel⟩
def fX12_operandg_46 (rc_operand : Nat → St → Option (St)) (rc_either : Nat → St → Option (St)) (n : Nat) (st : St) (v1 : Int32) : Option (St) := bnd (fX12_opens st) (fun r28 => if bI r28.1 = 0 then (some r28.2) else ((rc_operand n r28.2).bind (fun r31 => bnd (sI r31 0 28 ((gI r31 0 28) - (1 : Int32))) (fun st33 => if v1 = (33 : Int32) then ((fX12_addStep st33 (3 : Int32) (0 : Int32)).bind (fun r38 => some r38)) else ((fX12_addStep st33 (4 : Int32) (0 : Int32)).bind (fun r36 => some r36))))))
set_option maxHeartbeats 4000000 in
theorem tX12_operandg_46 {p : Program} {l : Launch} {e : Env} {s : State} {m : MethodId} {args : Array Value} {below : List Frame} {meth : Method} {c : Code} {X : WX} (C : Amb 43 X p s m args meth c cX12_operand 2 RX12) (hr : meth.sig.returnType = none) {R : St} {n : Nat} {FB LB RF RL : Nat} (hRF : FB + 2 ≤ RF) (hRL : LB + 44 ≤ RL) {rc_operand : Nat → St → Option (St)} (hr_operand : ∀ (n : Nat) (st : St) (R : St), rc_operand n st = some R → CtV l yX12_operand cX12_operand 2 ({ frames := FB, cells := 0, slots := 0, locals := LB }) EM 43 X [.ref (xq X 0)] st R) {rc_either : Nat → St → Option (St)} (hr_either : ∀ (n : Nat) (st : St) (R : St), rc_either n st = some R → CtV l yX12_either cX12_either 1 ({ frames := FB, cells := 0, slots := 0, locals := LB }) EM 43 X [.ref (xq X 0)] st R) : ∀ (st : St) (v1 : Int32) (H : Heap) (locs : List Loc) (ls : Array Slot), Wd EM 43 X s.heap st H locs → lv_has ls 2 [(0, .ref (xq X 0)), (1, .int v1)] → fX12_operandg_46 rc_operand rc_either n st v1 = some R → W p l e { frames := RF, cells := 0, slots := 0, locals := RL } s m args below meth c H locs 0 0 (QV EM 43 X R below args s) (F0 m 46 ls []) := by
  obtain ⟨hx, hb, hml, hown, hts⟩ := id C.1
  intro st v1 H locs ls  hw hl hf
  unfold fX12_operandg_46 at hf
  refine lv_aload_n hx hb dX12_operand_46 rfl (lv_at hl 0 rfl) ?_
  obtain ⟨r28, k29⟩ : ∃ z : Bool × St, z = fX12_opens st := ⟨_, rfl⟩
  replace hf := bnd_nm hf k29
  refine w_goI hw (w_runV (rest := []) C hw (zX12_opens _ _ st r28 k29.symm) (by decide) (EM_0 X _ _) rfl km_X12_244 ki_yX12_opens kv_X12_opens kz_X12 kc_X12_opens rfl ok_yX12_opens ⟨by dsimp only; omega, by dsimp only; omega⟩ rfl rfl rfl rfl hl.1 (Nat.le_of_ble_eq_true rfl) dX12_operand_47 ⟨Nat.zero_le _, Nat.zero_le _⟩) (fun H locs hw => ?_)
  refine lv_if_ne (tgt := 54) hx hb dX12_operand_50 (by decide) (fun c30 => ?_) (fun c30 => ?_)
  · replace hf := ite_f hf c30
    refine lv_aload_n hx hb dX12_operand_54 rfl (lv_at hl 0 rfl) ?_
    obtain ⟨r31, k32, hf⟩ := bd_some hf
    refine w_goV hw (w_runV (rest := []) C hw (hr_operand n r28.2 r31 k32) (by decide) (EM_0 X _ _) rfl km_X12_248 ki_yX12_operand kv_X12_operand kz_X12 kc_X12_operand rfl ok_yX12_operand ⟨by dsimp only; omega, by dsimp only; omega⟩ rfl rfl rfl rfl hl.1 (Nat.le_of_ble_eq_true rfl) dX12_operand_55 ⟨Nat.zero_le _, Nat.zero_le _⟩) (fun H locs hw => ?_)
    refine lv_aload_n hx hb dX12_operand_58 rfl (lv_at hl 0 rfl) ?_
    refine lv_dup hx hb dX12_operand_59 rfl ?_
    refine w_get (T := TX12) C hw (by decide) 28 kf_X12_226 (EM_0 X _ _) rfl inA12 (by decide) rfl dX12_operand_60 ?_
    refine lv_iconst (v := 1) hx hb dX12_operand_63 (by decide) ?_
    refine lv_isub hx hb dX12_operand_64 ?_
    obtain ⟨st33, es34⟩ : ∃ z : St, z = sI r31 0 28 ((gI r31 0 28) - (1 : Int32)) := ⟨_, rfl⟩
    replace hf := bnd_nm hf es34
    refine w_puti (T := TX12) C hw (by decide) 28 kf_X12_226 (EM_0 X _ _) rfl inA12 tyX12_ok nmX12 (by decide) rfl rfl (Nat.le_of_ble_eq_true rfl) rfl dX12_operand_65 (fun H locs hw => ?_)
    rw [← es34] at hw
    refine lv_aload_n hx hb dX12_operand_68 rfl (lv_at hl 0 rfl) ?_
    refine lv_iload_n hx hb dX12_operand_69 rfl (lv_at hl 1 rfl) ?_
    refine lv_bipush (v := 33) hx hb dX12_operand_70 (by decide) ?_
    refine lv_icmp_ne (tgt := 79) hx hb dX12_operand_72 (by decide) (fun c35 => ?_) (fun c35 => ?_)
    · replace hf := ite_f hf c35
      refine lv_iconst (v := 4) hx hb dX12_operand_79 (by decide) ?_
      refine lv_iconst (v := 0) hx hb dX12_operand_80 (by decide) ?_
      obtain ⟨r36, k37, hf⟩ := bd_some hf
      refine w_goV hw (w_runV (rest := []) C hw (zX12_addStep _ _ st33 (4 : Int32) (0 : Int32) r36 k37) (by decide) (EM_0 X _ _) rfl km_X12_236 ki_yX12_addStep kv_X12_addStep kz_X12 kc_X12_addStep rfl ok_yX12_addStep ⟨by dsimp only; omega, by dsimp only; omega⟩ rfl rfl rfl rfl hl.1 (Nat.le_of_ble_eq_true rfl) dX12_operand_81 ⟨Nat.zero_le _, Nat.zero_le _⟩) (fun H locs hw => ?_)
      refine lv_goto (tgt := 154) hx hb dX12_operand_84 (by decide) ?_
      exact w_vret C hw hr (Option.some.inj hf) dX12_operand_154
    · replace hf := ite_t hf c35
      refine lv_iconst (v := 3) hx hb dX12_operand_75 (by decide) ?_
      refine lv_goto (tgt := 80) hx hb dX12_operand_76 (by decide) ?_
      refine lv_iconst (v := 0) hx hb dX12_operand_80 (by decide) ?_
      obtain ⟨r38, k39, hf⟩ := bd_some hf
      refine w_goV hw (w_runV (rest := []) C hw (zX12_addStep _ _ st33 (3 : Int32) (0 : Int32) r38 k39) (by decide) (EM_0 X _ _) rfl km_X12_236 ki_yX12_addStep kv_X12_addStep kz_X12 kc_X12_addStep rfl ok_yX12_addStep ⟨by dsimp only; omega, by dsimp only; omega⟩ rfl rfl rfl rfl hl.1 (Nat.le_of_ble_eq_true rfl) dX12_operand_81 ⟨Nat.zero_le _, Nat.zero_le _⟩) (fun H locs hw => ?_)
      refine lv_goto (tgt := 154) hx hb dX12_operand_84 (by decide) ?_
      exact w_vret C hw hr (Option.some.inj hf) dX12_operand_154
  · replace hf := ite_t hf c30
    exact w_vret C hw hr (Option.some.inj hf) dX12_operand_53
def fX12_operandg (rc_operand : Nat → St → Option (St)) (rc_either : Nat → St → Option (St)) (n : Nat) (st : St) : Option (St) := (fX12_look st).bind (fun r1 => if (fX12_nameOf r1) < 0 then (if r1 = (33 : Int32) then (fX12_operandg_46 rc_operand rc_either n st r1) else (if r1 = (45 : Int32) then (fX12_operandg_46 rc_operand rc_either n st r1) else (if r1 = (40 : Int32) then (bnd (fX12_opens st) (fun r9 => if bI r9.1 = 0 then (some r9.2) else ((rc_either n r9.2).bind (fun r12 => if gI r12 0 27 < 0 then ((fX12_look r12).bind (fun r15 => if r15 = (41 : Int32) then (bnd (sI r12 0 26 ((gI r12 0 26) + (1 : Int32))) (fun st18 => bnd (sI st18 0 28 ((gI st18 0 28) - (1 : Int32))) (fun st20 => some st20))) else (bnd (fX12_wrong r12) (fun r22 => some r22)))) else (some r12))))) else ((fX12_figure n st).bind (fun r7 => some r7))))) else ((fX12_addStep st (2 : Int32) (fX12_nameOf r1)).bind (fun r24 => bnd (sI r24 0 26 ((gI r24 0 26) + (1 : Int32))) (fun st26 => some st26))))
set_option maxHeartbeats 4000000 in
theorem zX12_operandg (l : Launch) (X : WX) {FB LB RF RL : Nat} (hRF : FB + 2 ≤ RF) (hRL : LB + 44 ≤ RL) {rc_operand : Nat → St → Option (St)} (hr_operand : ∀ (n : Nat) (st : St) (R : St), rc_operand n st = some R → CtV l yX12_operand cX12_operand 2 ({ frames := FB, cells := 0, slots := 0, locals := LB }) EM 43 X [.ref (xq X 0)] st R) {rc_either : Nat → St → Option (St)} (hr_either : ∀ (n : Nat) (st : St) (R : St), rc_either n st = some R → CtV l yX12_either cX12_either 1 ({ frames := FB, cells := 0, slots := 0, locals := LB }) EM 43 X [.ref (xq X 0)] st R) (n : Nat) (st : St)  (R : St) (hf : fX12_operandg rc_operand rc_either n st = some R) : CtV l yX12_operand cX12_operand 2 ({ frames := RF, cells := 0, slots := 0, locals := RL }) EM 43 X [.ref (xq X 0)] st R := by
  refine ct_in (own := RX12) (by decide +kernel) rfl (Nat.le_of_ble_eq_true rfl) (fun p e s m below meth c C hr hw ls hl => ?_)
  obtain ⟨hx, hb, hml, hown, hts⟩ := id C.1
  have hl : lv_has ls 2 [(0, .ref (xq X 0))] := hl
  unfold fX12_operandg at hf
  refine lv_aload_n hx hb dX12_operand_0 rfl (lv_at hl 0 rfl) ?_
  obtain ⟨r1, k2, hf⟩ := bd_some hf
  refine w_goI hw (w_runV (rest := []) C hw (zX12_look _ _ st r1 k2) (by decide) (EM_0 X _ _) rfl km_X12_232 ki_yX12_look kv_X12_look kz_X12 kc_X12_look rfl ok_yX12_look ⟨by dsimp only; omega, by dsimp only; omega⟩ rfl rfl rfl rfl hl.1 (Nat.le_of_ble_eq_true rfl) dX12_operand_1 ⟨Nat.zero_le _, Nat.zero_le _⟩) (fun H locs hw => ?_)
  refine lv_istore_n (lv' := [(1, .int r1), (0, .ref (xq X 0))]) hx hb dX12_operand_4 rfl hl (by decide) rfl (fun ls hl => ?_)
  refine lv_iload_n hx hb dX12_operand_5 rfl (lv_at hl 0 rfl) ?_
  refine w_goI hw (w_runS (rest := []) C hw (zX12_nameOf _ _ st r1) km_X12_240 kt_yX12_nameOf kz_X12 kc_X12_nameOf ok_yX12_nameOf ⟨by dsimp only; omega, by dsimp only; omega⟩ rfl rfl rfl rfl hl.1 (Nat.le_of_ble_eq_true rfl) dX12_operand_6 ⟨Nat.zero_le _, Nat.zero_le _⟩) (fun H locs hw => ?_)
  refine lv_if_lt (tgt := 34) hx hb dX12_operand_9 (by decide) (fun c3 => ?_) (fun c3 => ?_)
  · replace hf := ite_t hf c3
    refine lv_iload_n hx hb dX12_operand_34 rfl (lv_at hl 0 rfl) ?_
    refine lv_bipush (v := 33) hx hb dX12_operand_35 (by decide) ?_
    refine lv_icmp_eq (tgt := 46) hx hb dX12_operand_37 (by decide) (fun c4 => ?_) (fun c4 => ?_)
    · replace hf := ite_t hf c4
      exact tX12_operandg_46 C hr hRF hRL hr_operand hr_either st r1 _ _ _ hw (lv_sub hl [1, 0] rfl) hf
    · replace hf := ite_f hf c4
      refine lv_iload_n hx hb dX12_operand_40 rfl (lv_at hl 0 rfl) ?_
      refine lv_bipush (v := 45) hx hb dX12_operand_41 (by decide) ?_
      refine lv_icmp_ne (tgt := 87) hx hb dX12_operand_43 (by decide) (fun c5 => ?_) (fun c5 => ?_)
      · replace hf := ite_f hf c5
        refine lv_iload_n hx hb dX12_operand_87 rfl (lv_at hl 0 rfl) ?_
        refine lv_bipush (v := 40) hx hb dX12_operand_88 (by decide) ?_
        refine lv_icmp_ne (tgt := 150) hx hb dX12_operand_90 (by decide) (fun c6 => ?_) (fun c6 => ?_)
        · replace hf := ite_f hf c6
          refine lv_aload_n hx hb dX12_operand_150 rfl (lv_at hl 1 rfl) ?_
          obtain ⟨r7, k8, hf⟩ := bd_some hf
          refine w_goV hw (w_runV (rest := []) C hw (zX12_figure _ _ n st r7 k8) (by decide) (EM_0 X _ _) rfl km_X12_254 ki_yX12_figure kv_X12_figure kz_X12 kc_X12_figure rfl ok_yX12_figure ⟨by dsimp only; omega, by dsimp only; omega⟩ rfl rfl rfl rfl hl.1 (Nat.le_of_ble_eq_true rfl) dX12_operand_151 ⟨Nat.zero_le _, Nat.zero_le _⟩) (fun H locs hw => ?_)
          exact w_vret C hw hr (Option.some.inj hf) dX12_operand_154
        · replace hf := ite_t hf c6
          refine lv_aload_n hx hb dX12_operand_93 rfl (lv_at hl 1 rfl) ?_
          obtain ⟨r9, k10⟩ : ∃ z : Bool × St, z = fX12_opens st := ⟨_, rfl⟩
          replace hf := bnd_nm hf k10
          refine w_goI hw (w_runV (rest := []) C hw (zX12_opens _ _ st r9 k10.symm) (by decide) (EM_0 X _ _) rfl km_X12_244 ki_yX12_opens kv_X12_opens kz_X12 kc_X12_opens rfl ok_yX12_opens ⟨by dsimp only; omega, by dsimp only; omega⟩ rfl rfl rfl rfl hl.1 (Nat.le_of_ble_eq_true rfl) dX12_operand_94 ⟨Nat.zero_le _, Nat.zero_le _⟩) (fun H locs hw => ?_)
          refine lv_if_ne (tgt := 101) hx hb dX12_operand_97 (by decide) (fun c11 => ?_) (fun c11 => ?_)
          · replace hf := ite_f hf c11
            refine lv_aload_n hx hb dX12_operand_101 rfl (lv_at hl 1 rfl) ?_
            obtain ⟨r12, k13, hf⟩ := bd_some hf
            refine w_goV hw (w_runV (rest := []) C hw (hr_either n r9.2 r12 k13) (by decide) (EM_0 X _ _) rfl km_X12_251 ki_yX12_either kv_X12_either kz_X12 kc_X12_either rfl ok_yX12_either ⟨by dsimp only; omega, by dsimp only; omega⟩ rfl rfl rfl rfl hl.1 (Nat.le_of_ble_eq_true rfl) dX12_operand_102 ⟨Nat.zero_le _, Nat.zero_le _⟩) (fun H locs hw => ?_)
            refine lv_aload_n hx hb dX12_operand_105 rfl (lv_at hl 1 rfl) ?_
            refine w_get (T := TX12) C hw (by decide) 27 kf_X12_220 (EM_0 X _ _) rfl inA12 (by decide) rfl dX12_operand_106 ?_
            refine lv_if_lt (tgt := 113) hx hb dX12_operand_109 (by decide) (fun c14 => ?_) (fun c14 => ?_)
            · replace hf := ite_t hf c14
              refine lv_aload_n hx hb dX12_operand_113 rfl (lv_at hl 1 rfl) ?_
              obtain ⟨r15, k16, hf⟩ := bd_some hf
              refine w_goI hw (w_runV (rest := []) C hw (zX12_look _ _ r12 r15 k16) (by decide) (EM_0 X _ _) rfl km_X12_232 ki_yX12_look kv_X12_look kz_X12 kc_X12_look rfl ok_yX12_look ⟨by dsimp only; omega, by dsimp only; omega⟩ rfl rfl rfl rfl hl.1 (Nat.le_of_ble_eq_true rfl) dX12_operand_114 ⟨Nat.zero_le _, Nat.zero_le _⟩) (fun H locs hw => ?_)
              refine lv_bipush (v := 41) hx hb dX12_operand_117 (by decide) ?_
              refine lv_icmp_eq (tgt := 127) hx hb dX12_operand_119 (by decide) (fun c17 => ?_) (fun c17 => ?_)
              · replace hf := ite_t hf c17
                refine lv_aload_n hx hb dX12_operand_127 rfl (lv_at hl 1 rfl) ?_
                refine lv_dup hx hb dX12_operand_128 rfl ?_
                refine w_get (T := TX12) C hw (by decide) 26 kf_X12_217 (EM_0 X _ _) rfl inA12 (by decide) rfl dX12_operand_129 ?_
                refine lv_iconst (v := 1) hx hb dX12_operand_132 (by decide) ?_
                refine lv_iadd hx hb dX12_operand_133 ?_
                obtain ⟨st18, es19⟩ : ∃ z : St, z = sI r12 0 26 ((gI r12 0 26) + (1 : Int32)) := ⟨_, rfl⟩
                replace hf := bnd_nm hf es19
                refine w_puti (T := TX12) C hw (by decide) 26 kf_X12_217 (EM_0 X _ _) rfl inA12 tyX12_ok nmX12 (by decide) rfl rfl (Nat.le_of_ble_eq_true rfl) rfl dX12_operand_134 (fun H locs hw => ?_)
                rw [← es19] at hw
                refine lv_aload_n hx hb dX12_operand_137 rfl (lv_at hl 1 rfl) ?_
                refine lv_dup hx hb dX12_operand_138 rfl ?_
                refine w_get (T := TX12) C hw (by decide) 28 kf_X12_226 (EM_0 X _ _) rfl inA12 (by decide) rfl dX12_operand_139 ?_
                refine lv_iconst (v := 1) hx hb dX12_operand_142 (by decide) ?_
                refine lv_isub hx hb dX12_operand_143 ?_
                obtain ⟨st20, es21⟩ : ∃ z : St, z = sI st18 0 28 ((gI st18 0 28) - (1 : Int32)) := ⟨_, rfl⟩
                replace hf := bnd_nm hf es21
                refine w_puti (T := TX12) C hw (by decide) 28 kf_X12_226 (EM_0 X _ _) rfl inA12 tyX12_ok nmX12 (by decide) rfl rfl (Nat.le_of_ble_eq_true rfl) rfl dX12_operand_144 (fun H locs hw => ?_)
                rw [← es21] at hw
                refine lv_goto (tgt := 154) hx hb dX12_operand_147 (by decide) ?_
                exact w_vret C hw hr (Option.some.inj hf) dX12_operand_154
              · replace hf := ite_f hf c17
                refine lv_aload_n hx hb dX12_operand_122 rfl (lv_at hl 1 rfl) ?_
                obtain ⟨r22, k23⟩ : ∃ z : St, z = fX12_wrong r12 := ⟨_, rfl⟩
                replace hf := bnd_nm hf k23
                refine w_goV hw (w_runV (rest := []) C hw (zX12_wrong _ _ r12 r22 k23.symm) (by decide) (EM_0 X _ _) rfl km_X12_229 ki_yX12_wrong kv_X12_wrong kz_X12 kc_X12_wrong rfl ok_yX12_wrong ⟨by dsimp only; omega, by dsimp only; omega⟩ rfl rfl rfl rfl hl.1 (Nat.le_of_ble_eq_true rfl) dX12_operand_123 ⟨Nat.zero_le _, Nat.zero_le _⟩) (fun H locs hw => ?_)
                exact w_vret C hw hr (Option.some.inj hf) dX12_operand_126
            · replace hf := ite_f hf c14
              exact w_vret C hw hr (Option.some.inj hf) dX12_operand_112
          · replace hf := ite_t hf c11
            exact w_vret C hw hr (Option.some.inj hf) dX12_operand_100
      · replace hf := ite_t hf c5
        exact tX12_operandg_46 C hr hRF hRL hr_operand hr_either st r1 _ _ _ hw (lv_sub hl [1, 0] rfl) hf
  · replace hf := ite_f hf c3
    refine lv_aload_n hx hb dX12_operand_12 rfl (lv_at hl 1 rfl) ?_
    refine lv_iconst (v := 2) hx hb dX12_operand_13 (by decide) ?_
    refine lv_iload_n hx hb dX12_operand_14 rfl (lv_at hl 0 rfl) ?_
    refine w_goI hw (w_runS (rest := [.int (2 : Int32), .ref (xq X 0)]) C hw (zX12_nameOf _ _ st r1) km_X12_240 kt_yX12_nameOf kz_X12 kc_X12_nameOf ok_yX12_nameOf ⟨by dsimp only; omega, by dsimp only; omega⟩ rfl rfl rfl rfl hl.1 (Nat.le_of_ble_eq_true rfl) dX12_operand_15 ⟨Nat.zero_le _, Nat.zero_le _⟩) (fun H locs hw => ?_)
    obtain ⟨r24, k25, hf⟩ := bd_some hf
    refine w_goV hw (w_runV (rest := []) C hw (zX12_addStep _ _ st (2 : Int32) (fX12_nameOf r1) r24 k25) (by decide) (EM_0 X _ _) rfl km_X12_236 ki_yX12_addStep kv_X12_addStep kz_X12 kc_X12_addStep rfl ok_yX12_addStep ⟨by dsimp only; omega, by dsimp only; omega⟩ rfl rfl rfl rfl hl.1 (Nat.le_of_ble_eq_true rfl) dX12_operand_18 ⟨Nat.zero_le _, Nat.zero_le _⟩) (fun H locs hw => ?_)
    refine lv_aload_n hx hb dX12_operand_21 rfl (lv_at hl 1 rfl) ?_
    refine lv_dup hx hb dX12_operand_22 rfl ?_
    refine w_get (T := TX12) C hw (by decide) 26 kf_X12_217 (EM_0 X _ _) rfl inA12 (by decide) rfl dX12_operand_23 ?_
    refine lv_iconst (v := 1) hx hb dX12_operand_26 (by decide) ?_
    refine lv_iadd hx hb dX12_operand_27 ?_
    obtain ⟨st26, es27⟩ : ∃ z : St, z = sI r24 0 26 ((gI r24 0 26) + (1 : Int32)) := ⟨_, rfl⟩
    replace hf := bnd_nm hf es27
    refine w_puti (T := TX12) C hw (by decide) 26 kf_X12_217 (EM_0 X _ _) rfl inA12 tyX12_ok nmX12 (by decide) rfl rfl (Nat.le_of_ble_eq_true rfl) rfl dX12_operand_28 (fun H locs hw => ?_)
    rw [← es27] at hw
    refine lv_goto (tgt := 154) hx hb dX12_operand_31 (by decide) ?_
    exact w_vret C hw hr (Option.some.inj hf) dX12_operand_154
def fX12_productg_38 (kB4 : St → Option (St)) (rc_operand : Nat → St → Option (St)) (rc_either : Nat → St → Option (St)) (n : Nat) (st : St) : Option (St) := (fX12_look st).bind (fun r13 => bnd (sI st 0 26 ((gI st 0 26) + (1 : Int32))) (fun st15 => (fX12_operandg rc_operand rc_either n st15).bind (fun r17 => (fX12_addStep r17 r13 (0 : Int32)).bind (fun r19 => kB4 r19))))
set_option maxHeartbeats 4000000 in
theorem tX12_productg_38 {p : Program} {l : Launch} {e : Env} {s : State} {m : MethodId} {args : Array Value} {below : List Frame} {meth : Method} {c : Code} {X : WX} (C : Amb 43 X p s m args meth c cX12_product 2 RX12) (hr : meth.sig.returnType = none) {R : St} {n : Nat} {FB LB RF RL : Nat} (hRF : FB + 3 ≤ RF) (hRL : LB + 65 ≤ RL) {rc_operand : Nat → St → Option (St)} (hr_operand : ∀ (n : Nat) (st : St) (R : St), rc_operand n st = some R → CtV l yX12_operand cX12_operand 2 ({ frames := FB, cells := 0, slots := 0, locals := LB }) EM 43 X [.ref (xq X 0)] st R) {rc_either : Nat → St → Option (St)} (hr_either : ∀ (n : Nat) (st : St) (R : St), rc_either n st = some R → CtV l yX12_either cX12_either 1 ({ frames := FB, cells := 0, slots := 0, locals := LB }) EM 43 X [.ref (xq X 0)] st R) {kB4 : St → Option (St)} (hB4 : ∀ (st : St) (H : Heap) (locs : List Loc) (ls : Array Slot), Wd EM 43 X s.heap st H locs → lv_has ls 2 [(0, .ref (xq X 0))] → kB4 st = some R → W p l e { frames := RF, cells := 0, slots := 0, locals := RL } s m args below meth c H locs 0 0 (QV EM 43 X R below args s) (F0 m 4 ls [])) : ∀ (st : St) (H : Heap) (locs : List Loc) (ls : Array Slot), Wd EM 43 X s.heap st H locs → lv_has ls 2 [(0, .ref (xq X 0))] → fX12_productg_38 kB4 rc_operand rc_either n st = some R → W p l e { frames := RF, cells := 0, slots := 0, locals := RL } s m args below meth c H locs 0 0 (QV EM 43 X R below args s) (F0 m 38 ls []) := by
  obtain ⟨hx, hb, hml, hown, hts⟩ := id C.1
  intro st H locs ls  hw hl hf
  unfold fX12_productg_38 at hf
  refine lv_aload_n hx hb dX12_product_38 rfl (lv_at hl 0 rfl) ?_
  obtain ⟨r13, k14, hf⟩ := bd_some hf
  refine w_goI hw (w_runV (rest := []) C hw (zX12_look _ _ st r13 k14) (by decide) (EM_0 X _ _) rfl km_X12_232 ki_yX12_look kv_X12_look kz_X12 kc_X12_look rfl ok_yX12_look ⟨by dsimp only; omega, by dsimp only; omega⟩ rfl rfl rfl rfl hl.1 (Nat.le_of_ble_eq_true rfl) dX12_product_39 ⟨Nat.zero_le _, Nat.zero_le _⟩) (fun H locs hw => ?_)
  refine lv_istore_n (lv' := [(1, .int r13), (0, .ref (xq X 0))]) hx hb dX12_product_42 rfl hl (by decide) rfl (fun ls hl => ?_)
  refine lv_aload_n hx hb dX12_product_43 rfl (lv_at hl 1 rfl) ?_
  refine lv_dup hx hb dX12_product_44 rfl ?_
  refine w_get (T := TX12) C hw (by decide) 26 kf_X12_217 (EM_0 X _ _) rfl inA12 (by decide) rfl dX12_product_45 ?_
  refine lv_iconst (v := 1) hx hb dX12_product_48 (by decide) ?_
  refine lv_iadd hx hb dX12_product_49 ?_
  obtain ⟨st15, es16⟩ : ∃ z : St, z = sI st 0 26 ((gI st 0 26) + (1 : Int32)) := ⟨_, rfl⟩
  replace hf := bnd_nm hf es16
  refine w_puti (T := TX12) C hw (by decide) 26 kf_X12_217 (EM_0 X _ _) rfl inA12 tyX12_ok nmX12 (by decide) rfl rfl (Nat.le_of_ble_eq_true rfl) rfl dX12_product_50 (fun H locs hw => ?_)
  rw [← es16] at hw
  refine lv_aload_n hx hb dX12_product_53 rfl (lv_at hl 1 rfl) ?_
  obtain ⟨r17, k18, hf⟩ := bd_some hf
  refine w_goV hw (w_runV (rest := []) C hw (zX12_operandg _ _ (Nat.le_refl _) (Nat.le_refl _) hr_operand hr_either n st15 r17 k18) (by decide) (EM_0 X _ _) rfl km_X12_248 ki_yX12_operand kv_X12_operand kz_X12 kc_X12_operand rfl ok_yX12_operand ⟨by dsimp only; omega, by dsimp only; omega⟩ rfl rfl rfl rfl hl.1 (Nat.le_of_ble_eq_true rfl) dX12_product_54 ⟨Nat.zero_le _, Nat.zero_le _⟩) (fun H locs hw => ?_)
  refine lv_aload_n hx hb dX12_product_57 rfl (lv_at hl 1 rfl) ?_
  refine lv_iload_n hx hb dX12_product_58 rfl (lv_at hl 0 rfl) ?_
  refine lv_iconst (v := 0) hx hb dX12_product_59 (by decide) ?_
  obtain ⟨r19, k20, hf⟩ := bd_some hf
  refine w_goV hw (w_runV (rest := []) C hw (zX12_addStep _ _ r17 r13 (0 : Int32) r19 k20) (by decide) (EM_0 X _ _) rfl km_X12_236 ki_yX12_addStep kv_X12_addStep kz_X12 kc_X12_addStep rfl ok_yX12_addStep ⟨by dsimp only; omega, by dsimp only; omega⟩ rfl rfl rfl rfl hl.1 (Nat.le_of_ble_eq_true rfl) dX12_product_60 ⟨Nat.zero_le _, Nat.zero_le _⟩) (fun H locs hw => ?_)
  refine lv_goto (tgt := 4) hx hb dX12_product_63 (by decide) ?_
  exact hB4 r19 _ _ _ hw (lv_sub hl [1] rfl) hf
def fX12_productg_4 (rc_operand : Nat → St → Option (St)) (rc_either : Nat → St → Option (St)) (n : Nat) : Nat → St → Option (St)
  | 0, _ => none
  | k + 1, st => if 0 ≤ gI st 0 27 then (some st) else ((fX12_look st).bind (fun r4 => if r4 = (42 : Int32) then (fX12_productg_38 (fX12_productg_4 rc_operand rc_either n k) rc_operand rc_either n st) else ((fX12_look st).bind (fun r7 => if r7 = (47 : Int32) then (fX12_productg_38 (fX12_productg_4 rc_operand rc_either n k) rc_operand rc_either n st) else ((fX12_look st).bind (fun r10 => if r10 = (37 : Int32) then (fX12_productg_38 (fX12_productg_4 rc_operand rc_either n k) rc_operand rc_either n st) else (some st)))))))
set_option maxHeartbeats 4000000 in
theorem tX12_productg_4 {p : Program} {l : Launch} {e : Env} {s : State} {m : MethodId} {args : Array Value} {below : List Frame} {meth : Method} {c : Code} {X : WX} (C : Amb 43 X p s m args meth c cX12_product 2 RX12) (hr : meth.sig.returnType = none) {R : St} {n : Nat} {FB LB RF RL : Nat} (hRF : FB + 3 ≤ RF) (hRL : LB + 65 ≤ RL) {rc_operand : Nat → St → Option (St)} (hr_operand : ∀ (n : Nat) (st : St) (R : St), rc_operand n st = some R → CtV l yX12_operand cX12_operand 2 ({ frames := FB, cells := 0, slots := 0, locals := LB }) EM 43 X [.ref (xq X 0)] st R) {rc_either : Nat → St → Option (St)} (hr_either : ∀ (n : Nat) (st : St) (R : St), rc_either n st = some R → CtV l yX12_either cX12_either 1 ({ frames := FB, cells := 0, slots := 0, locals := LB }) EM 43 X [.ref (xq X 0)] st R) : ∀ (k : Nat) (st : St) (H : Heap) (locs : List Loc) (ls : Array Slot), Wd EM 43 X s.heap st H locs → lv_has ls 2 [(0, .ref (xq X 0))] → fX12_productg_4 rc_operand rc_either n k st = some R → W p l e { frames := RF, cells := 0, slots := 0, locals := RL } s m args below meth c H locs 0 0 (QV EM 43 X R below args s) (F0 m 4 ls []) := by
  obtain ⟨hx, hb, hml, hown, hts⟩ := id C.1
  intro k
  induction k with
  | zero => intro st H locs ls  hw hl hf; exact absurd (show none = some R from hf) (fun z => by cases z)
  | succ k ih =>
    intro st H locs ls  hw hl hf
    rw [fX12_productg_4] at hf
    refine lv_aload_n hx hb dX12_product_4 rfl (lv_at hl 0 rfl) ?_
    refine w_get (T := TX12) C hw (by decide) 27 kf_X12_220 (EM_0 X _ _) rfl inA12 (by decide) rfl dX12_product_5 ?_
    refine lv_if_ge (tgt := 66) hx hb dX12_product_8 (by decide) (fun c3 => ?_) (fun c3 => ?_)
    · replace hf := ite_t hf c3
      exact w_vret C hw hr (Option.some.inj hf) dX12_product_66
    · replace hf := ite_f hf c3
      refine lv_aload_n hx hb dX12_product_11 rfl (lv_at hl 0 rfl) ?_
      obtain ⟨r4, k5, hf⟩ := bd_some hf
      refine w_goI hw (w_runV (rest := []) C hw (zX12_look _ _ st r4 k5) (by decide) (EM_0 X _ _) rfl km_X12_232 ki_yX12_look kv_X12_look kz_X12 kc_X12_look rfl ok_yX12_look ⟨by dsimp only; omega, by dsimp only; omega⟩ rfl rfl rfl rfl hl.1 (Nat.le_of_ble_eq_true rfl) dX12_product_12 ⟨Nat.zero_le _, Nat.zero_le _⟩) (fun H locs hw => ?_)
      refine lv_bipush (v := 42) hx hb dX12_product_15 (by decide) ?_
      refine lv_icmp_eq (tgt := 38) hx hb dX12_product_17 (by decide) (fun c6 => ?_) (fun c6 => ?_)
      · replace hf := ite_t hf c6
        exact tX12_productg_38 C hr hRF hRL hr_operand hr_either ih st _ _ _ hw (lv_sub hl [0] rfl) hf
      · replace hf := ite_f hf c6
        refine lv_aload_n hx hb dX12_product_20 rfl (lv_at hl 0 rfl) ?_
        obtain ⟨r7, k8, hf⟩ := bd_some hf
        refine w_goI hw (w_runV (rest := []) C hw (zX12_look _ _ st r7 k8) (by decide) (EM_0 X _ _) rfl km_X12_232 ki_yX12_look kv_X12_look kz_X12 kc_X12_look rfl ok_yX12_look ⟨by dsimp only; omega, by dsimp only; omega⟩ rfl rfl rfl rfl hl.1 (Nat.le_of_ble_eq_true rfl) dX12_product_21 ⟨Nat.zero_le _, Nat.zero_le _⟩) (fun H locs hw => ?_)
        refine lv_bipush (v := 47) hx hb dX12_product_24 (by decide) ?_
        refine lv_icmp_eq (tgt := 38) hx hb dX12_product_26 (by decide) (fun c9 => ?_) (fun c9 => ?_)
        · replace hf := ite_t hf c9
          exact tX12_productg_38 C hr hRF hRL hr_operand hr_either ih st _ _ _ hw (lv_sub hl [0] rfl) hf
        · replace hf := ite_f hf c9
          refine lv_aload_n hx hb dX12_product_29 rfl (lv_at hl 0 rfl) ?_
          obtain ⟨r10, k11, hf⟩ := bd_some hf
          refine w_goI hw (w_runV (rest := []) C hw (zX12_look _ _ st r10 k11) (by decide) (EM_0 X _ _) rfl km_X12_232 ki_yX12_look kv_X12_look kz_X12 kc_X12_look rfl ok_yX12_look ⟨by dsimp only; omega, by dsimp only; omega⟩ rfl rfl rfl rfl hl.1 (Nat.le_of_ble_eq_true rfl) dX12_product_30 ⟨Nat.zero_le _, Nat.zero_le _⟩) (fun H locs hw => ?_)
          refine lv_bipush (v := 37) hx hb dX12_product_33 (by decide) ?_
          refine lv_icmp_ne (tgt := 66) hx hb dX12_product_35 (by decide) (fun c12 => ?_) (fun c12 => ?_)
          · replace hf := ite_f hf c12
            exact w_vret C hw hr (Option.some.inj hf) dX12_product_66
          · replace hf := ite_t hf c12
            exact tX12_productg_38 C hr hRF hRL hr_operand hr_either ih st _ _ _ hw (lv_sub hl [0] rfl) hf
def fX12_productg (rc_operand : Nat → St → Option (St)) (rc_either : Nat → St → Option (St)) (n : Nat) (st : St) : Option (St) := (fX12_operandg rc_operand rc_either n st).bind (fun r1 => fX12_productg_4 rc_operand rc_either n n r1)
set_option maxHeartbeats 4000000 in
theorem zX12_productg (l : Launch) (X : WX) {FB LB RF RL : Nat} (hRF : FB + 3 ≤ RF) (hRL : LB + 65 ≤ RL) {rc_operand : Nat → St → Option (St)} (hr_operand : ∀ (n : Nat) (st : St) (R : St), rc_operand n st = some R → CtV l yX12_operand cX12_operand 2 ({ frames := FB, cells := 0, slots := 0, locals := LB }) EM 43 X [.ref (xq X 0)] st R) {rc_either : Nat → St → Option (St)} (hr_either : ∀ (n : Nat) (st : St) (R : St), rc_either n st = some R → CtV l yX12_either cX12_either 1 ({ frames := FB, cells := 0, slots := 0, locals := LB }) EM 43 X [.ref (xq X 0)] st R) (n : Nat) (st : St)  (R : St) (hf : fX12_productg rc_operand rc_either n st = some R) : CtV l yX12_product cX12_product 2 ({ frames := RF, cells := 0, slots := 0, locals := RL }) EM 43 X [.ref (xq X 0)] st R := by
  refine ct_in (own := RX12) (by decide +kernel) rfl (Nat.le_of_ble_eq_true rfl) (fun p e s m below meth c C hr hw ls hl => ?_)
  obtain ⟨hx, hb, hml, hown, hts⟩ := id C.1
  have hl : lv_has ls 2 [(0, .ref (xq X 0))] := hl
  unfold fX12_productg at hf
  refine lv_aload_n hx hb dX12_product_0 rfl (lv_at hl 0 rfl) ?_
  obtain ⟨r1, k2, hf⟩ := bd_some hf
  refine w_goV hw (w_runV (rest := []) C hw (zX12_operandg _ _ (Nat.le_refl _) (Nat.le_refl _) hr_operand hr_either n st r1 k2) (by decide) (EM_0 X _ _) rfl km_X12_248 ki_yX12_operand kv_X12_operand kz_X12 kc_X12_operand rfl ok_yX12_operand ⟨by dsimp only; omega, by dsimp only; omega⟩ rfl rfl rfl rfl hl.1 (Nat.le_of_ble_eq_true rfl) dX12_product_1 ⟨Nat.zero_le _, Nat.zero_le _⟩) (fun H locs hw => ?_)
  exact tX12_productg_4 C hr hRF hRL hr_operand hr_either n r1 _ _ _ hw (lv_sub hl [0] rfl) hf
def fX12_sumg_29 (kB4 : St → Option (St)) (rc_operand : Nat → St → Option (St)) (rc_either : Nat → St → Option (St)) (n : Nat) (st : St) : Option (St) := (fX12_look st).bind (fun r10 => bnd (sI st 0 26 ((gI st 0 26) + (1 : Int32))) (fun st12 => (fX12_productg rc_operand rc_either n st12).bind (fun r14 => (fX12_addStep r14 r10 (0 : Int32)).bind (fun r16 => kB4 r16))))
set_option maxHeartbeats 4000000 in
theorem tX12_sumg_29 {p : Program} {l : Launch} {e : Env} {s : State} {m : MethodId} {args : Array Value} {below : List Frame} {meth : Method} {c : Code} {X : WX} (C : Amb 43 X p s m args meth c cX12_sum 2 RX12) (hr : meth.sig.returnType = none) {R : St} {n : Nat} {FB LB RF RL : Nat} (hRF : FB + 4 ≤ RF) (hRL : LB + 86 ≤ RL) {rc_operand : Nat → St → Option (St)} (hr_operand : ∀ (n : Nat) (st : St) (R : St), rc_operand n st = some R → CtV l yX12_operand cX12_operand 2 ({ frames := FB, cells := 0, slots := 0, locals := LB }) EM 43 X [.ref (xq X 0)] st R) {rc_either : Nat → St → Option (St)} (hr_either : ∀ (n : Nat) (st : St) (R : St), rc_either n st = some R → CtV l yX12_either cX12_either 1 ({ frames := FB, cells := 0, slots := 0, locals := LB }) EM 43 X [.ref (xq X 0)] st R) {kB4 : St → Option (St)} (hB4 : ∀ (st : St) (H : Heap) (locs : List Loc) (ls : Array Slot), Wd EM 43 X s.heap st H locs → lv_has ls 2 [(0, .ref (xq X 0))] → kB4 st = some R → W p l e { frames := RF, cells := 0, slots := 0, locals := RL } s m args below meth c H locs 0 0 (QV EM 43 X R below args s) (F0 m 4 ls [])) : ∀ (st : St) (H : Heap) (locs : List Loc) (ls : Array Slot), Wd EM 43 X s.heap st H locs → lv_has ls 2 [(0, .ref (xq X 0))] → fX12_sumg_29 kB4 rc_operand rc_either n st = some R → W p l e { frames := RF, cells := 0, slots := 0, locals := RL } s m args below meth c H locs 0 0 (QV EM 43 X R below args s) (F0 m 29 ls []) := by
  obtain ⟨hx, hb, hml, hown, hts⟩ := id C.1
  intro st H locs ls  hw hl hf
  unfold fX12_sumg_29 at hf
  refine lv_aload_n hx hb dX12_sum_29 rfl (lv_at hl 0 rfl) ?_
  obtain ⟨r10, k11, hf⟩ := bd_some hf
  refine w_goI hw (w_runV (rest := []) C hw (zX12_look _ _ st r10 k11) (by decide) (EM_0 X _ _) rfl km_X12_232 ki_yX12_look kv_X12_look kz_X12 kc_X12_look rfl ok_yX12_look ⟨by dsimp only; omega, by dsimp only; omega⟩ rfl rfl rfl rfl hl.1 (Nat.le_of_ble_eq_true rfl) dX12_sum_30 ⟨Nat.zero_le _, Nat.zero_le _⟩) (fun H locs hw => ?_)
  refine lv_istore_n (lv' := [(1, .int r10), (0, .ref (xq X 0))]) hx hb dX12_sum_33 rfl hl (by decide) rfl (fun ls hl => ?_)
  refine lv_aload_n hx hb dX12_sum_34 rfl (lv_at hl 1 rfl) ?_
  refine lv_dup hx hb dX12_sum_35 rfl ?_
  refine w_get (T := TX12) C hw (by decide) 26 kf_X12_217 (EM_0 X _ _) rfl inA12 (by decide) rfl dX12_sum_36 ?_
  refine lv_iconst (v := 1) hx hb dX12_sum_39 (by decide) ?_
  refine lv_iadd hx hb dX12_sum_40 ?_
  obtain ⟨st12, es13⟩ : ∃ z : St, z = sI st 0 26 ((gI st 0 26) + (1 : Int32)) := ⟨_, rfl⟩
  replace hf := bnd_nm hf es13
  refine w_puti (T := TX12) C hw (by decide) 26 kf_X12_217 (EM_0 X _ _) rfl inA12 tyX12_ok nmX12 (by decide) rfl rfl (Nat.le_of_ble_eq_true rfl) rfl dX12_sum_41 (fun H locs hw => ?_)
  rw [← es13] at hw
  refine lv_aload_n hx hb dX12_sum_44 rfl (lv_at hl 1 rfl) ?_
  obtain ⟨r14, k15, hf⟩ := bd_some hf
  refine w_goV hw (w_runV (rest := []) C hw (zX12_productg _ _ (Nat.le_refl _) (Nat.le_refl _) hr_operand hr_either n st12 r14 k15) (by decide) (EM_0 X _ _) rfl km_X12_257 ki_yX12_product kv_X12_product kz_X12 kc_X12_product rfl ok_yX12_product ⟨by dsimp only; omega, by dsimp only; omega⟩ rfl rfl rfl rfl hl.1 (Nat.le_of_ble_eq_true rfl) dX12_sum_45 ⟨Nat.zero_le _, Nat.zero_le _⟩) (fun H locs hw => ?_)
  refine lv_aload_n hx hb dX12_sum_48 rfl (lv_at hl 1 rfl) ?_
  refine lv_iload_n hx hb dX12_sum_49 rfl (lv_at hl 0 rfl) ?_
  refine lv_iconst (v := 0) hx hb dX12_sum_50 (by decide) ?_
  obtain ⟨r16, k17, hf⟩ := bd_some hf
  refine w_goV hw (w_runV (rest := []) C hw (zX12_addStep _ _ r14 r10 (0 : Int32) r16 k17) (by decide) (EM_0 X _ _) rfl km_X12_236 ki_yX12_addStep kv_X12_addStep kz_X12 kc_X12_addStep rfl ok_yX12_addStep ⟨by dsimp only; omega, by dsimp only; omega⟩ rfl rfl rfl rfl hl.1 (Nat.le_of_ble_eq_true rfl) dX12_sum_51 ⟨Nat.zero_le _, Nat.zero_le _⟩) (fun H locs hw => ?_)
  refine lv_goto (tgt := 4) hx hb dX12_sum_54 (by decide) ?_
  exact hB4 r16 _ _ _ hw (lv_sub hl [1] rfl) hf
def fX12_sumg_4 (rc_operand : Nat → St → Option (St)) (rc_either : Nat → St → Option (St)) (n : Nat) : Nat → St → Option (St)
  | 0, _ => none
  | k + 1, st => if 0 ≤ gI st 0 27 then (some st) else ((fX12_look st).bind (fun r4 => if r4 = (43 : Int32) then (fX12_sumg_29 (fX12_sumg_4 rc_operand rc_either n k) rc_operand rc_either n st) else ((fX12_look st).bind (fun r7 => if r7 = (45 : Int32) then (fX12_sumg_29 (fX12_sumg_4 rc_operand rc_either n k) rc_operand rc_either n st) else (some st)))))
set_option maxHeartbeats 4000000 in
theorem tX12_sumg_4 {p : Program} {l : Launch} {e : Env} {s : State} {m : MethodId} {args : Array Value} {below : List Frame} {meth : Method} {c : Code} {X : WX} (C : Amb 43 X p s m args meth c cX12_sum 2 RX12) (hr : meth.sig.returnType = none) {R : St} {n : Nat} {FB LB RF RL : Nat} (hRF : FB + 4 ≤ RF) (hRL : LB + 86 ≤ RL) {rc_operand : Nat → St → Option (St)} (hr_operand : ∀ (n : Nat) (st : St) (R : St), rc_operand n st = some R → CtV l yX12_operand cX12_operand 2 ({ frames := FB, cells := 0, slots := 0, locals := LB }) EM 43 X [.ref (xq X 0)] st R) {rc_either : Nat → St → Option (St)} (hr_either : ∀ (n : Nat) (st : St) (R : St), rc_either n st = some R → CtV l yX12_either cX12_either 1 ({ frames := FB, cells := 0, slots := 0, locals := LB }) EM 43 X [.ref (xq X 0)] st R) : ∀ (k : Nat) (st : St) (H : Heap) (locs : List Loc) (ls : Array Slot), Wd EM 43 X s.heap st H locs → lv_has ls 2 [(0, .ref (xq X 0))] → fX12_sumg_4 rc_operand rc_either n k st = some R → W p l e { frames := RF, cells := 0, slots := 0, locals := RL } s m args below meth c H locs 0 0 (QV EM 43 X R below args s) (F0 m 4 ls []) := by
  obtain ⟨hx, hb, hml, hown, hts⟩ := id C.1
  intro k
  induction k with
  | zero => intro st H locs ls  hw hl hf; exact absurd (show none = some R from hf) (fun z => by cases z)
  | succ k ih =>
    intro st H locs ls  hw hl hf
    rw [fX12_sumg_4] at hf
    refine lv_aload_n hx hb dX12_sum_4 rfl (lv_at hl 0 rfl) ?_
    refine w_get (T := TX12) C hw (by decide) 27 kf_X12_220 (EM_0 X _ _) rfl inA12 (by decide) rfl dX12_sum_5 ?_
    refine lv_if_ge (tgt := 57) hx hb dX12_sum_8 (by decide) (fun c3 => ?_) (fun c3 => ?_)
    · replace hf := ite_t hf c3
      exact w_vret C hw hr (Option.some.inj hf) dX12_sum_57
    · replace hf := ite_f hf c3
      refine lv_aload_n hx hb dX12_sum_11 rfl (lv_at hl 0 rfl) ?_
      obtain ⟨r4, k5, hf⟩ := bd_some hf
      refine w_goI hw (w_runV (rest := []) C hw (zX12_look _ _ st r4 k5) (by decide) (EM_0 X _ _) rfl km_X12_232 ki_yX12_look kv_X12_look kz_X12 kc_X12_look rfl ok_yX12_look ⟨by dsimp only; omega, by dsimp only; omega⟩ rfl rfl rfl rfl hl.1 (Nat.le_of_ble_eq_true rfl) dX12_sum_12 ⟨Nat.zero_le _, Nat.zero_le _⟩) (fun H locs hw => ?_)
      refine lv_bipush (v := 43) hx hb dX12_sum_15 (by decide) ?_
      refine lv_icmp_eq (tgt := 29) hx hb dX12_sum_17 (by decide) (fun c6 => ?_) (fun c6 => ?_)
      · replace hf := ite_t hf c6
        exact tX12_sumg_29 C hr hRF hRL hr_operand hr_either ih st _ _ _ hw (lv_sub hl [0] rfl) hf
      · replace hf := ite_f hf c6
        refine lv_aload_n hx hb dX12_sum_20 rfl (lv_at hl 0 rfl) ?_
        obtain ⟨r7, k8, hf⟩ := bd_some hf
        refine w_goI hw (w_runV (rest := []) C hw (zX12_look _ _ st r7 k8) (by decide) (EM_0 X _ _) rfl km_X12_232 ki_yX12_look kv_X12_look kz_X12 kc_X12_look rfl ok_yX12_look ⟨by dsimp only; omega, by dsimp only; omega⟩ rfl rfl rfl rfl hl.1 (Nat.le_of_ble_eq_true rfl) dX12_sum_21 ⟨Nat.zero_le _, Nat.zero_le _⟩) (fun H locs hw => ?_)
        refine lv_bipush (v := 45) hx hb dX12_sum_24 (by decide) ?_
        refine lv_icmp_ne (tgt := 57) hx hb dX12_sum_26 (by decide) (fun c9 => ?_) (fun c9 => ?_)
        · replace hf := ite_f hf c9
          exact w_vret C hw hr (Option.some.inj hf) dX12_sum_57
        · replace hf := ite_t hf c9
          exact tX12_sumg_29 C hr hRF hRL hr_operand hr_either ih st _ _ _ hw (lv_sub hl [0] rfl) hf
def fX12_sumg (rc_operand : Nat → St → Option (St)) (rc_either : Nat → St → Option (St)) (n : Nat) (st : St) : Option (St) := (fX12_productg rc_operand rc_either n st).bind (fun r1 => fX12_sumg_4 rc_operand rc_either n n r1)
set_option maxHeartbeats 4000000 in
theorem zX12_sumg (l : Launch) (X : WX) {FB LB RF RL : Nat} (hRF : FB + 4 ≤ RF) (hRL : LB + 86 ≤ RL) {rc_operand : Nat → St → Option (St)} (hr_operand : ∀ (n : Nat) (st : St) (R : St), rc_operand n st = some R → CtV l yX12_operand cX12_operand 2 ({ frames := FB, cells := 0, slots := 0, locals := LB }) EM 43 X [.ref (xq X 0)] st R) {rc_either : Nat → St → Option (St)} (hr_either : ∀ (n : Nat) (st : St) (R : St), rc_either n st = some R → CtV l yX12_either cX12_either 1 ({ frames := FB, cells := 0, slots := 0, locals := LB }) EM 43 X [.ref (xq X 0)] st R) (n : Nat) (st : St)  (R : St) (hf : fX12_sumg rc_operand rc_either n st = some R) : CtV l yX12_sum cX12_sum 2 ({ frames := RF, cells := 0, slots := 0, locals := RL }) EM 43 X [.ref (xq X 0)] st R := by
  refine ct_in (own := RX12) (by decide +kernel) rfl (Nat.le_of_ble_eq_true rfl) (fun p e s m below meth c C hr hw ls hl => ?_)
  obtain ⟨hx, hb, hml, hown, hts⟩ := id C.1
  have hl : lv_has ls 2 [(0, .ref (xq X 0))] := hl
  unfold fX12_sumg at hf
  refine lv_aload_n hx hb dX12_sum_0 rfl (lv_at hl 0 rfl) ?_
  obtain ⟨r1, k2, hf⟩ := bd_some hf
  refine w_goV hw (w_runV (rest := []) C hw (zX12_productg _ _ (Nat.le_refl _) (Nat.le_refl _) hr_operand hr_either n st r1 k2) (by decide) (EM_0 X _ _) rfl km_X12_257 ki_yX12_product kv_X12_product kz_X12 kc_X12_product rfl ok_yX12_product ⟨by dsimp only; omega, by dsimp only; omega⟩ rfl rfl rfl rfl hl.1 (Nat.le_of_ble_eq_true rfl) dX12_sum_1 ⟨Nat.zero_le _, Nat.zero_le _⟩) (fun H locs hw => ?_)
  exact tX12_sumg_4 C hr hRF hRL hr_operand hr_either n r1 _ _ _ hw (lv_sub hl [0] rfl) hf
def fX12_comparedg_35 (rc_operand : Nat → St → Option (St)) (rc_either : Nat → St → Option (St)) (n : Nat) (st : St) (v1 : Int32) : Option (St) := bnd (sI st 0 26 ((gI st 0 26) + (1 : Int32))) (fun st9 => (fX12_sumg rc_operand rc_either n st9).bind (fun r11 => (fX12_addStep r11 v1 (0 : Int32)).bind (fun r13 => some r13)))
set_option maxHeartbeats 4000000 in
theorem tX12_comparedg_35 {p : Program} {l : Launch} {e : Env} {s : State} {m : MethodId} {args : Array Value} {below : List Frame} {meth : Method} {c : Code} {X : WX} (C : Amb 43 X p s m args meth c cX12_compared 2 RX12) (hr : meth.sig.returnType = none) {R : St} {n : Nat} {FB LB RF RL : Nat} (hRF : FB + 5 ≤ RF) (hRL : LB + 107 ≤ RL) {rc_operand : Nat → St → Option (St)} (hr_operand : ∀ (n : Nat) (st : St) (R : St), rc_operand n st = some R → CtV l yX12_operand cX12_operand 2 ({ frames := FB, cells := 0, slots := 0, locals := LB }) EM 43 X [.ref (xq X 0)] st R) {rc_either : Nat → St → Option (St)} (hr_either : ∀ (n : Nat) (st : St) (R : St), rc_either n st = some R → CtV l yX12_either cX12_either 1 ({ frames := FB, cells := 0, slots := 0, locals := LB }) EM 43 X [.ref (xq X 0)] st R) : ∀ (st : St) (v1 : Int32) (H : Heap) (locs : List Loc) (ls : Array Slot), Wd EM 43 X s.heap st H locs → lv_has ls 2 [(0, .ref (xq X 0)), (1, .int v1)] → fX12_comparedg_35 rc_operand rc_either n st v1 = some R → W p l e { frames := RF, cells := 0, slots := 0, locals := RL } s m args below meth c H locs 0 0 (QV EM 43 X R below args s) (F0 m 35 ls []) := by
  obtain ⟨hx, hb, hml, hown, hts⟩ := id C.1
  intro st v1 H locs ls  hw hl hf
  unfold fX12_comparedg_35 at hf
  refine lv_aload_n hx hb dX12_compared_35 rfl (lv_at hl 0 rfl) ?_
  refine lv_dup hx hb dX12_compared_36 rfl ?_
  refine w_get (T := TX12) C hw (by decide) 26 kf_X12_217 (EM_0 X _ _) rfl inA12 (by decide) rfl dX12_compared_37 ?_
  refine lv_iconst (v := 1) hx hb dX12_compared_40 (by decide) ?_
  refine lv_iadd hx hb dX12_compared_41 ?_
  obtain ⟨st9, es10⟩ : ∃ z : St, z = sI st 0 26 ((gI st 0 26) + (1 : Int32)) := ⟨_, rfl⟩
  replace hf := bnd_nm hf es10
  refine w_puti (T := TX12) C hw (by decide) 26 kf_X12_217 (EM_0 X _ _) rfl inA12 tyX12_ok nmX12 (by decide) rfl rfl (Nat.le_of_ble_eq_true rfl) rfl dX12_compared_42 (fun H locs hw => ?_)
  rw [← es10] at hw
  refine lv_aload_n hx hb dX12_compared_45 rfl (lv_at hl 0 rfl) ?_
  obtain ⟨r11, k12, hf⟩ := bd_some hf
  refine w_goV hw (w_runV (rest := []) C hw (zX12_sumg _ _ (Nat.le_refl _) (Nat.le_refl _) hr_operand hr_either n st9 r11 k12) (by decide) (EM_0 X _ _) rfl km_X12_260 ki_yX12_sum kv_X12_sum kz_X12 kc_X12_sum rfl ok_yX12_sum ⟨by dsimp only; omega, by dsimp only; omega⟩ rfl rfl rfl rfl hl.1 (Nat.le_of_ble_eq_true rfl) dX12_compared_46 ⟨Nat.zero_le _, Nat.zero_le _⟩) (fun H locs hw => ?_)
  refine lv_aload_n hx hb dX12_compared_49 rfl (lv_at hl 0 rfl) ?_
  refine lv_iload_n hx hb dX12_compared_50 rfl (lv_at hl 1 rfl) ?_
  refine lv_iconst (v := 0) hx hb dX12_compared_51 (by decide) ?_
  obtain ⟨r13, k14, hf⟩ := bd_some hf
  refine w_goV hw (w_runV (rest := []) C hw (zX12_addStep _ _ r11 v1 (0 : Int32) r13 k14) (by decide) (EM_0 X _ _) rfl km_X12_236 ki_yX12_addStep kv_X12_addStep kz_X12 kc_X12_addStep rfl ok_yX12_addStep ⟨by dsimp only; omega, by dsimp only; omega⟩ rfl rfl rfl rfl hl.1 (Nat.le_of_ble_eq_true rfl) dX12_compared_52 ⟨Nat.zero_le _, Nat.zero_le _⟩) (fun H locs hw => ?_)
  exact w_vret C hw hr (Option.some.inj hf) dX12_compared_55
def fX12_comparedg (rc_operand : Nat → St → Option (St)) (rc_either : Nat → St → Option (St)) (n : Nat) (st : St) : Option (St) := (fX12_sumg rc_operand rc_either n st).bind (fun r1 => (fX12_look r1).bind (fun r3 => if 0 ≤ gI r1 0 27 then (some r1) else (if r3 = (60 : Int32) then (fX12_comparedg_35 rc_operand rc_either n r1 r3) else (if r3 = (61 : Int32) then (fX12_comparedg_35 rc_operand rc_either n r1 r3) else (if r3 = (62 : Int32) then (fX12_comparedg_35 rc_operand rc_either n r1 r3) else (some r1))))))
set_option maxHeartbeats 4000000 in
theorem zX12_comparedg (l : Launch) (X : WX) {FB LB RF RL : Nat} (hRF : FB + 5 ≤ RF) (hRL : LB + 107 ≤ RL) {rc_operand : Nat → St → Option (St)} (hr_operand : ∀ (n : Nat) (st : St) (R : St), rc_operand n st = some R → CtV l yX12_operand cX12_operand 2 ({ frames := FB, cells := 0, slots := 0, locals := LB }) EM 43 X [.ref (xq X 0)] st R) {rc_either : Nat → St → Option (St)} (hr_either : ∀ (n : Nat) (st : St) (R : St), rc_either n st = some R → CtV l yX12_either cX12_either 1 ({ frames := FB, cells := 0, slots := 0, locals := LB }) EM 43 X [.ref (xq X 0)] st R) (n : Nat) (st : St)  (R : St) (hf : fX12_comparedg rc_operand rc_either n st = some R) : CtV l yX12_compared cX12_compared 2 ({ frames := RF, cells := 0, slots := 0, locals := RL }) EM 43 X [.ref (xq X 0)] st R := by
  refine ct_in (own := RX12) (by decide +kernel) rfl (Nat.le_of_ble_eq_true rfl) (fun p e s m below meth c C hr hw ls hl => ?_)
  obtain ⟨hx, hb, hml, hown, hts⟩ := id C.1
  have hl : lv_has ls 2 [(0, .ref (xq X 0))] := hl
  unfold fX12_comparedg at hf
  refine lv_aload_n hx hb dX12_compared_0 rfl (lv_at hl 0 rfl) ?_
  obtain ⟨r1, k2, hf⟩ := bd_some hf
  refine w_goV hw (w_runV (rest := []) C hw (zX12_sumg _ _ (Nat.le_refl _) (Nat.le_refl _) hr_operand hr_either n st r1 k2) (by decide) (EM_0 X _ _) rfl km_X12_260 ki_yX12_sum kv_X12_sum kz_X12 kc_X12_sum rfl ok_yX12_sum ⟨by dsimp only; omega, by dsimp only; omega⟩ rfl rfl rfl rfl hl.1 (Nat.le_of_ble_eq_true rfl) dX12_compared_1 ⟨Nat.zero_le _, Nat.zero_le _⟩) (fun H locs hw => ?_)
  refine lv_aload_n hx hb dX12_compared_4 rfl (lv_at hl 0 rfl) ?_
  obtain ⟨r3, k4, hf⟩ := bd_some hf
  refine w_goI hw (w_runV (rest := []) C hw (zX12_look _ _ r1 r3 k4) (by decide) (EM_0 X _ _) rfl km_X12_232 ki_yX12_look kv_X12_look kz_X12 kc_X12_look rfl ok_yX12_look ⟨by dsimp only; omega, by dsimp only; omega⟩ rfl rfl rfl rfl hl.1 (Nat.le_of_ble_eq_true rfl) dX12_compared_5 ⟨Nat.zero_le _, Nat.zero_le _⟩) (fun H locs hw => ?_)
  refine lv_istore_n (lv' := [(1, .int r3), (0, .ref (xq X 0))]) hx hb dX12_compared_8 rfl hl (by decide) rfl (fun ls hl => ?_)
  refine lv_aload_n hx hb dX12_compared_9 rfl (lv_at hl 1 rfl) ?_
  refine w_get (T := TX12) C hw (by decide) 27 kf_X12_220 (EM_0 X _ _) rfl inA12 (by decide) rfl dX12_compared_10 ?_
  refine lv_if_ge (tgt := 34) hx hb dX12_compared_13 (by decide) (fun c5 => ?_) (fun c5 => ?_)
  · replace hf := ite_t hf c5
    exact w_vret C hw hr (Option.some.inj hf) dX12_compared_34
  · replace hf := ite_f hf c5
    refine lv_iload_n hx hb dX12_compared_16 rfl (lv_at hl 0 rfl) ?_
    refine lv_bipush (v := 60) hx hb dX12_compared_17 (by decide) ?_
    refine lv_icmp_eq (tgt := 35) hx hb dX12_compared_19 (by decide) (fun c6 => ?_) (fun c6 => ?_)
    · replace hf := ite_t hf c6
      exact tX12_comparedg_35 C hr hRF hRL hr_operand hr_either r1 r3 _ _ _ hw (lv_sub hl [1, 0] rfl) hf
    · replace hf := ite_f hf c6
      refine lv_iload_n hx hb dX12_compared_22 rfl (lv_at hl 0 rfl) ?_
      refine lv_bipush (v := 61) hx hb dX12_compared_23 (by decide) ?_
      refine lv_icmp_eq (tgt := 35) hx hb dX12_compared_25 (by decide) (fun c7 => ?_) (fun c7 => ?_)
      · replace hf := ite_t hf c7
        exact tX12_comparedg_35 C hr hRF hRL hr_operand hr_either r1 r3 _ _ _ hw (lv_sub hl [1, 0] rfl) hf
      · replace hf := ite_f hf c7
        refine lv_iload_n hx hb dX12_compared_28 rfl (lv_at hl 0 rfl) ?_
        refine lv_bipush (v := 62) hx hb dX12_compared_29 (by decide) ?_
        refine lv_icmp_eq (tgt := 35) hx hb dX12_compared_31 (by decide) (fun c8 => ?_) (fun c8 => ?_)
        · replace hf := ite_t hf c8
          exact tX12_comparedg_35 C hr hRF hRL hr_operand hr_either r1 r3 _ _ _ hw (lv_sub hl [1, 0] rfl) hf
        · replace hf := ite_f hf c8
          exact w_vret C hw hr (Option.some.inj hf) dX12_compared_34
def fX12_bothg_4 (rc_operand : Nat → St → Option (St)) (rc_either : Nat → St → Option (St)) (n : Nat) : Nat → St → Option (St)
  | 0, _ => none
  | k + 1, st => if 0 ≤ gI st 0 27 then (some st) else ((fX12_look st).bind (fun r4 => if r4 = (38 : Int32) then (bnd (sI st 0 26 ((gI st 0 26) + (1 : Int32))) (fun st7 => (fX12_comparedg rc_operand rc_either n st7).bind (fun r9 => (fX12_addStep r9 (38 : Int32) (0 : Int32)).bind (fun r11 => fX12_bothg_4 rc_operand rc_either n k r11)))) else (some st)))
set_option maxHeartbeats 4000000 in
theorem tX12_bothg_4 {p : Program} {l : Launch} {e : Env} {s : State} {m : MethodId} {args : Array Value} {below : List Frame} {meth : Method} {c : Code} {X : WX} (C : Amb 43 X p s m args meth c cX12_both 1 RX12) (hr : meth.sig.returnType = none) {R : St} {n : Nat} {FB LB RF RL : Nat} (hRF : FB + 6 ≤ RF) (hRL : LB + 128 ≤ RL) {rc_operand : Nat → St → Option (St)} (hr_operand : ∀ (n : Nat) (st : St) (R : St), rc_operand n st = some R → CtV l yX12_operand cX12_operand 2 ({ frames := FB, cells := 0, slots := 0, locals := LB }) EM 43 X [.ref (xq X 0)] st R) {rc_either : Nat → St → Option (St)} (hr_either : ∀ (n : Nat) (st : St) (R : St), rc_either n st = some R → CtV l yX12_either cX12_either 1 ({ frames := FB, cells := 0, slots := 0, locals := LB }) EM 43 X [.ref (xq X 0)] st R) : ∀ (k : Nat) (st : St) (H : Heap) (locs : List Loc) (ls : Array Slot), Wd EM 43 X s.heap st H locs → lv_has ls 1 [(0, .ref (xq X 0))] → fX12_bothg_4 rc_operand rc_either n k st = some R → W p l e { frames := RF, cells := 0, slots := 0, locals := RL } s m args below meth c H locs 0 0 (QV EM 43 X R below args s) (F0 m 4 ls []) := by
  obtain ⟨hx, hb, hml, hown, hts⟩ := id C.1
  intro k
  induction k with
  | zero => intro st H locs ls  hw hl hf; exact absurd (show none = some R from hf) (fun z => by cases z)
  | succ k ih =>
    intro st H locs ls  hw hl hf
    rw [fX12_bothg_4] at hf
    refine lv_aload_n hx hb dX12_both_4 rfl (lv_at hl 0 rfl) ?_
    refine w_get (T := TX12) C hw (by decide) 27 kf_X12_220 (EM_0 X _ _) rfl inA12 (by decide) rfl dX12_both_5 ?_
    refine lv_if_ge (tgt := 44) hx hb dX12_both_8 (by decide) (fun c3 => ?_) (fun c3 => ?_)
    · replace hf := ite_t hf c3
      exact w_vret C hw hr (Option.some.inj hf) dX12_both_44
    · replace hf := ite_f hf c3
      refine lv_aload_n hx hb dX12_both_11 rfl (lv_at hl 0 rfl) ?_
      obtain ⟨r4, k5, hf⟩ := bd_some hf
      refine w_goI hw (w_runV (rest := []) C hw (zX12_look _ _ st r4 k5) (by decide) (EM_0 X _ _) rfl km_X12_232 ki_yX12_look kv_X12_look kz_X12 kc_X12_look rfl ok_yX12_look ⟨by dsimp only; omega, by dsimp only; omega⟩ rfl rfl rfl rfl hl.1 (Nat.le_of_ble_eq_true rfl) dX12_both_12 ⟨Nat.zero_le _, Nat.zero_le _⟩) (fun H locs hw => ?_)
      refine lv_bipush (v := 38) hx hb dX12_both_15 (by decide) ?_
      refine lv_icmp_ne (tgt := 44) hx hb dX12_both_17 (by decide) (fun c6 => ?_) (fun c6 => ?_)
      · replace hf := ite_f hf c6
        exact w_vret C hw hr (Option.some.inj hf) dX12_both_44
      · replace hf := ite_t hf c6
        refine lv_aload_n hx hb dX12_both_20 rfl (lv_at hl 0 rfl) ?_
        refine lv_dup hx hb dX12_both_21 rfl ?_
        refine w_get (T := TX12) C hw (by decide) 26 kf_X12_217 (EM_0 X _ _) rfl inA12 (by decide) rfl dX12_both_22 ?_
        refine lv_iconst (v := 1) hx hb dX12_both_25 (by decide) ?_
        refine lv_iadd hx hb dX12_both_26 ?_
        obtain ⟨st7, es8⟩ : ∃ z : St, z = sI st 0 26 ((gI st 0 26) + (1 : Int32)) := ⟨_, rfl⟩
        replace hf := bnd_nm hf es8
        refine w_puti (T := TX12) C hw (by decide) 26 kf_X12_217 (EM_0 X _ _) rfl inA12 tyX12_ok nmX12 (by decide) rfl rfl (Nat.le_of_ble_eq_true rfl) rfl dX12_both_27 (fun H locs hw => ?_)
        rw [← es8] at hw
        refine lv_aload_n hx hb dX12_both_30 rfl (lv_at hl 0 rfl) ?_
        obtain ⟨r9, k10, hf⟩ := bd_some hf
        refine w_goV hw (w_runV (rest := []) C hw (zX12_comparedg _ _ (Nat.le_refl _) (Nat.le_refl _) hr_operand hr_either n st7 r9 k10) (by decide) (EM_0 X _ _) rfl km_X12_263 ki_yX12_compared kv_X12_compared kz_X12 kc_X12_compared rfl ok_yX12_compared ⟨by dsimp only; omega, by dsimp only; omega⟩ rfl rfl rfl rfl hl.1 (Nat.le_of_ble_eq_true rfl) dX12_both_31 ⟨Nat.zero_le _, Nat.zero_le _⟩) (fun H locs hw => ?_)
        refine lv_aload_n hx hb dX12_both_34 rfl (lv_at hl 0 rfl) ?_
        refine lv_bipush (v := 38) hx hb dX12_both_35 (by decide) ?_
        refine lv_iconst (v := 0) hx hb dX12_both_37 (by decide) ?_
        obtain ⟨r11, k12, hf⟩ := bd_some hf
        refine w_goV hw (w_runV (rest := []) C hw (zX12_addStep _ _ r9 (38 : Int32) (0 : Int32) r11 k12) (by decide) (EM_0 X _ _) rfl km_X12_236 ki_yX12_addStep kv_X12_addStep kz_X12 kc_X12_addStep rfl ok_yX12_addStep ⟨by dsimp only; omega, by dsimp only; omega⟩ rfl rfl rfl rfl hl.1 (Nat.le_of_ble_eq_true rfl) dX12_both_38 ⟨Nat.zero_le _, Nat.zero_le _⟩) (fun H locs hw => ?_)
        refine lv_goto (tgt := 4) hx hb dX12_both_41 (by decide) ?_
        exact ih r11 _ _ _ hw (lv_sub hl [0] rfl) hf
def fX12_bothg (rc_operand : Nat → St → Option (St)) (rc_either : Nat → St → Option (St)) (n : Nat) (st : St) : Option (St) := (fX12_comparedg rc_operand rc_either n st).bind (fun r1 => fX12_bothg_4 rc_operand rc_either n n r1)
set_option maxHeartbeats 4000000 in
theorem zX12_bothg (l : Launch) (X : WX) {FB LB RF RL : Nat} (hRF : FB + 6 ≤ RF) (hRL : LB + 128 ≤ RL) {rc_operand : Nat → St → Option (St)} (hr_operand : ∀ (n : Nat) (st : St) (R : St), rc_operand n st = some R → CtV l yX12_operand cX12_operand 2 ({ frames := FB, cells := 0, slots := 0, locals := LB }) EM 43 X [.ref (xq X 0)] st R) {rc_either : Nat → St → Option (St)} (hr_either : ∀ (n : Nat) (st : St) (R : St), rc_either n st = some R → CtV l yX12_either cX12_either 1 ({ frames := FB, cells := 0, slots := 0, locals := LB }) EM 43 X [.ref (xq X 0)] st R) (n : Nat) (st : St)  (R : St) (hf : fX12_bothg rc_operand rc_either n st = some R) : CtV l yX12_both cX12_both 1 ({ frames := RF, cells := 0, slots := 0, locals := RL }) EM 43 X [.ref (xq X 0)] st R := by
  refine ct_in (own := RX12) (by decide +kernel) rfl (Nat.le_of_ble_eq_true rfl) (fun p e s m below meth c C hr hw ls hl => ?_)
  obtain ⟨hx, hb, hml, hown, hts⟩ := id C.1
  have hl : lv_has ls 1 [(0, .ref (xq X 0))] := hl
  unfold fX12_bothg at hf
  refine lv_aload_n hx hb dX12_both_0 rfl (lv_at hl 0 rfl) ?_
  obtain ⟨r1, k2, hf⟩ := bd_some hf
  refine w_goV hw (w_runV (rest := []) C hw (zX12_comparedg _ _ (Nat.le_refl _) (Nat.le_refl _) hr_operand hr_either n st r1 k2) (by decide) (EM_0 X _ _) rfl km_X12_263 ki_yX12_compared kv_X12_compared kz_X12 kc_X12_compared rfl ok_yX12_compared ⟨by dsimp only; omega, by dsimp only; omega⟩ rfl rfl rfl rfl hl.1 (Nat.le_of_ble_eq_true rfl) dX12_both_1 ⟨Nat.zero_le _, Nat.zero_le _⟩) (fun H locs hw => ?_)
  exact tX12_bothg_4 C hr hRF hRL hr_operand hr_either n r1 _ _ _ hw (lv_sub hl [0] rfl) hf
def fX12_eitherg_4 (rc_operand : Nat → St → Option (St)) (rc_either : Nat → St → Option (St)) (n : Nat) : Nat → St → Option (St)
  | 0, _ => none
  | k + 1, st => if 0 ≤ gI st 0 27 then (some st) else ((fX12_look st).bind (fun r4 => if r4 = (124 : Int32) then (bnd (sI st 0 26 ((gI st 0 26) + (1 : Int32))) (fun st7 => (fX12_bothg rc_operand rc_either n st7).bind (fun r9 => (fX12_addStep r9 (124 : Int32) (0 : Int32)).bind (fun r11 => fX12_eitherg_4 rc_operand rc_either n k r11)))) else (some st)))
set_option maxHeartbeats 4000000 in
theorem tX12_eitherg_4 {p : Program} {l : Launch} {e : Env} {s : State} {m : MethodId} {args : Array Value} {below : List Frame} {meth : Method} {c : Code} {X : WX} (C : Amb 43 X p s m args meth c cX12_either 1 RX12) (hr : meth.sig.returnType = none) {R : St} {n : Nat} {FB LB RF RL : Nat} (hRF : FB + 7 ≤ RF) (hRL : LB + 148 ≤ RL) {rc_operand : Nat → St → Option (St)} (hr_operand : ∀ (n : Nat) (st : St) (R : St), rc_operand n st = some R → CtV l yX12_operand cX12_operand 2 ({ frames := FB, cells := 0, slots := 0, locals := LB }) EM 43 X [.ref (xq X 0)] st R) {rc_either : Nat → St → Option (St)} (hr_either : ∀ (n : Nat) (st : St) (R : St), rc_either n st = some R → CtV l yX12_either cX12_either 1 ({ frames := FB, cells := 0, slots := 0, locals := LB }) EM 43 X [.ref (xq X 0)] st R) : ∀ (k : Nat) (st : St) (H : Heap) (locs : List Loc) (ls : Array Slot), Wd EM 43 X s.heap st H locs → lv_has ls 1 [(0, .ref (xq X 0))] → fX12_eitherg_4 rc_operand rc_either n k st = some R → W p l e { frames := RF, cells := 0, slots := 0, locals := RL } s m args below meth c H locs 0 0 (QV EM 43 X R below args s) (F0 m 4 ls []) := by
  obtain ⟨hx, hb, hml, hown, hts⟩ := id C.1
  intro k
  induction k with
  | zero => intro st H locs ls  hw hl hf; exact absurd (show none = some R from hf) (fun z => by cases z)
  | succ k ih =>
    intro st H locs ls  hw hl hf
    rw [fX12_eitherg_4] at hf
    refine lv_aload_n hx hb dX12_either_4 rfl (lv_at hl 0 rfl) ?_
    refine w_get (T := TX12) C hw (by decide) 27 kf_X12_220 (EM_0 X _ _) rfl inA12 (by decide) rfl dX12_either_5 ?_
    refine lv_if_ge (tgt := 44) hx hb dX12_either_8 (by decide) (fun c3 => ?_) (fun c3 => ?_)
    · replace hf := ite_t hf c3
      exact w_vret C hw hr (Option.some.inj hf) dX12_either_44
    · replace hf := ite_f hf c3
      refine lv_aload_n hx hb dX12_either_11 rfl (lv_at hl 0 rfl) ?_
      obtain ⟨r4, k5, hf⟩ := bd_some hf
      refine w_goI hw (w_runV (rest := []) C hw (zX12_look _ _ st r4 k5) (by decide) (EM_0 X _ _) rfl km_X12_232 ki_yX12_look kv_X12_look kz_X12 kc_X12_look rfl ok_yX12_look ⟨by dsimp only; omega, by dsimp only; omega⟩ rfl rfl rfl rfl hl.1 (Nat.le_of_ble_eq_true rfl) dX12_either_12 ⟨Nat.zero_le _, Nat.zero_le _⟩) (fun H locs hw => ?_)
      refine lv_bipush (v := 124) hx hb dX12_either_15 (by decide) ?_
      refine lv_icmp_ne (tgt := 44) hx hb dX12_either_17 (by decide) (fun c6 => ?_) (fun c6 => ?_)
      · replace hf := ite_f hf c6
        exact w_vret C hw hr (Option.some.inj hf) dX12_either_44
      · replace hf := ite_t hf c6
        refine lv_aload_n hx hb dX12_either_20 rfl (lv_at hl 0 rfl) ?_
        refine lv_dup hx hb dX12_either_21 rfl ?_
        refine w_get (T := TX12) C hw (by decide) 26 kf_X12_217 (EM_0 X _ _) rfl inA12 (by decide) rfl dX12_either_22 ?_
        refine lv_iconst (v := 1) hx hb dX12_either_25 (by decide) ?_
        refine lv_iadd hx hb dX12_either_26 ?_
        obtain ⟨st7, es8⟩ : ∃ z : St, z = sI st 0 26 ((gI st 0 26) + (1 : Int32)) := ⟨_, rfl⟩
        replace hf := bnd_nm hf es8
        refine w_puti (T := TX12) C hw (by decide) 26 kf_X12_217 (EM_0 X _ _) rfl inA12 tyX12_ok nmX12 (by decide) rfl rfl (Nat.le_of_ble_eq_true rfl) rfl dX12_either_27 (fun H locs hw => ?_)
        rw [← es8] at hw
        refine lv_aload_n hx hb dX12_either_30 rfl (lv_at hl 0 rfl) ?_
        obtain ⟨r9, k10, hf⟩ := bd_some hf
        refine w_goV hw (w_runV (rest := []) C hw (zX12_bothg _ _ (Nat.le_refl _) (Nat.le_refl _) hr_operand hr_either n st7 r9 k10) (by decide) (EM_0 X _ _) rfl km_X12_266 ki_yX12_both kv_X12_both kz_X12 kc_X12_both rfl ok_yX12_both ⟨by dsimp only; omega, by dsimp only; omega⟩ rfl rfl rfl rfl hl.1 (Nat.le_of_ble_eq_true rfl) dX12_either_31 ⟨Nat.zero_le _, Nat.zero_le _⟩) (fun H locs hw => ?_)
        refine lv_aload_n hx hb dX12_either_34 rfl (lv_at hl 0 rfl) ?_
        refine lv_bipush (v := 124) hx hb dX12_either_35 (by decide) ?_
        refine lv_iconst (v := 0) hx hb dX12_either_37 (by decide) ?_
        obtain ⟨r11, k12, hf⟩ := bd_some hf
        refine w_goV hw (w_runV (rest := []) C hw (zX12_addStep _ _ r9 (124 : Int32) (0 : Int32) r11 k12) (by decide) (EM_0 X _ _) rfl km_X12_236 ki_yX12_addStep kv_X12_addStep kz_X12 kc_X12_addStep rfl ok_yX12_addStep ⟨by dsimp only; omega, by dsimp only; omega⟩ rfl rfl rfl rfl hl.1 (Nat.le_of_ble_eq_true rfl) dX12_either_38 ⟨Nat.zero_le _, Nat.zero_le _⟩) (fun H locs hw => ?_)
        refine lv_goto (tgt := 4) hx hb dX12_either_41 (by decide) ?_
        exact ih r11 _ _ _ hw (lv_sub hl [0] rfl) hf
def fX12_eitherg (rc_operand : Nat → St → Option (St)) (rc_either : Nat → St → Option (St)) (n : Nat) (st : St) : Option (St) := (fX12_bothg rc_operand rc_either n st).bind (fun r1 => fX12_eitherg_4 rc_operand rc_either n n r1)
set_option maxHeartbeats 4000000 in
theorem zX12_eitherg (l : Launch) (X : WX) {FB LB RF RL : Nat} (hRF : FB + 7 ≤ RF) (hRL : LB + 148 ≤ RL) {rc_operand : Nat → St → Option (St)} (hr_operand : ∀ (n : Nat) (st : St) (R : St), rc_operand n st = some R → CtV l yX12_operand cX12_operand 2 ({ frames := FB, cells := 0, slots := 0, locals := LB }) EM 43 X [.ref (xq X 0)] st R) {rc_either : Nat → St → Option (St)} (hr_either : ∀ (n : Nat) (st : St) (R : St), rc_either n st = some R → CtV l yX12_either cX12_either 1 ({ frames := FB, cells := 0, slots := 0, locals := LB }) EM 43 X [.ref (xq X 0)] st R) (n : Nat) (st : St)  (R : St) (hf : fX12_eitherg rc_operand rc_either n st = some R) : CtV l yX12_either cX12_either 1 ({ frames := RF, cells := 0, slots := 0, locals := RL }) EM 43 X [.ref (xq X 0)] st R := by
  refine ct_in (own := RX12) (by decide +kernel) rfl (Nat.le_of_ble_eq_true rfl) (fun p e s m below meth c C hr hw ls hl => ?_)
  obtain ⟨hx, hb, hml, hown, hts⟩ := id C.1
  have hl : lv_has ls 1 [(0, .ref (xq X 0))] := hl
  unfold fX12_eitherg at hf
  refine lv_aload_n hx hb dX12_either_0 rfl (lv_at hl 0 rfl) ?_
  obtain ⟨r1, k2, hf⟩ := bd_some hf
  refine w_goV hw (w_runV (rest := []) C hw (zX12_bothg _ _ (Nat.le_refl _) (Nat.le_refl _) hr_operand hr_either n st r1 k2) (by decide) (EM_0 X _ _) rfl km_X12_266 ki_yX12_both kv_X12_both kz_X12 kc_X12_both rfl ok_yX12_both ⟨by dsimp only; omega, by dsimp only; omega⟩ rfl rfl rfl rfl hl.1 (Nat.le_of_ble_eq_true rfl) dX12_either_1 ⟨Nat.zero_le _, Nat.zero_le _⟩) (fun H locs hw => ?_)
  exact tX12_eitherg_4 C hr hRF hRL hr_operand hr_either n r1 _ _ _ hw (lv_sub hl [0] rfl) hf
def grX12 : Nat → (Nat → St → Option (St)) × (Nat → St → Option (St))
  | 0 => ((fun _ _ => none), (fun _ _ => none))
  | d + 1 => ((fX12_operandg (grX12 d).1 (grX12 d).2), (fX12_eitherg (grX12 d).1 (grX12 d).2))
set_option maxHeartbeats 4000000 in
theorem grX12_ok (l : Launch) (X : WX) (d : Nat) : (∀ (n : Nat) (st : St) (R : St), (grX12 d).1 n st = some R → CtV l yX12_operand cX12_operand 2 ({ frames := d * 7, cells := 0, slots := 0, locals := d * 148 }) EM 43 X [.ref (xq X 0)] st R) ∧ (∀ (n : Nat) (st : St) (R : St), (grX12 d).2 n st = some R → CtV l yX12_either cX12_either 1 ({ frames := d * 7, cells := 0, slots := 0, locals := d * 148 }) EM 43 X [.ref (xq X 0)] st R) := by
  induction d with
  | zero => exact ⟨fun _ _ _ h => absurd (show none = some _ from h) (fun z => by cases z), fun _ _ _ h => absurd (show none = some _ from h) (fun z => by cases z)⟩
  | succ d ih =>
    exact ⟨fun n st R h => zX12_operandg l X (RF := (d + 1) * 7) (RL := (d + 1) * 148) (FB := d * 7) (LB := d * 148) (by omega) (by omega) ih.1 ih.2 n st R h, fun n st R h => zX12_eitherg l X (RF := (d + 1) * 7) (RL := (d + 1) * 148) (FB := d * 7) (LB := d * 148) (by omega) (by omega) ih.1 ih.2 n st R h⟩
def fX12_operand (n : Nat) (st : St) : Option (St) := fX12_operandg (grX12 8).1 (grX12 8).2 n st 
theorem zX12_operand (l : Launch) (X : WX) (n : Nat) (st : St)  (R : St) (hf : fX12_operand n st  = some R) : CtV l yX12_operand cX12_operand 2 ({ frames := 58, cells := 0, slots := 0, locals := 1228 }) EM 43 X [.ref (xq X 0)] st R := zX12_operandg l X (FB := 8 * 7) (LB := 8 * 148) (Nat.le_of_ble_eq_true rfl) (Nat.le_of_ble_eq_true rfl) (grX12_ok l X 8).1 (grX12_ok l X 8).2 n st  R hf
def fX12_product (n : Nat) (st : St) : Option (St) := fX12_productg (grX12 8).1 (grX12 8).2 n st 
theorem zX12_product (l : Launch) (X : WX) (n : Nat) (st : St)  (R : St) (hf : fX12_product n st  = some R) : CtV l yX12_product cX12_product 2 ({ frames := 59, cells := 0, slots := 0, locals := 1249 }) EM 43 X [.ref (xq X 0)] st R := zX12_productg l X (FB := 8 * 7) (LB := 8 * 148) (Nat.le_of_ble_eq_true rfl) (Nat.le_of_ble_eq_true rfl) (grX12_ok l X 8).1 (grX12_ok l X 8).2 n st  R hf
def fX12_sum (n : Nat) (st : St) : Option (St) := fX12_sumg (grX12 8).1 (grX12 8).2 n st 
theorem zX12_sum (l : Launch) (X : WX) (n : Nat) (st : St)  (R : St) (hf : fX12_sum n st  = some R) : CtV l yX12_sum cX12_sum 2 ({ frames := 60, cells := 0, slots := 0, locals := 1270 }) EM 43 X [.ref (xq X 0)] st R := zX12_sumg l X (FB := 8 * 7) (LB := 8 * 148) (Nat.le_of_ble_eq_true rfl) (Nat.le_of_ble_eq_true rfl) (grX12_ok l X 8).1 (grX12_ok l X 8).2 n st  R hf
def fX12_compared (n : Nat) (st : St) : Option (St) := fX12_comparedg (grX12 8).1 (grX12 8).2 n st 
theorem zX12_compared (l : Launch) (X : WX) (n : Nat) (st : St)  (R : St) (hf : fX12_compared n st  = some R) : CtV l yX12_compared cX12_compared 2 ({ frames := 61, cells := 0, slots := 0, locals := 1291 }) EM 43 X [.ref (xq X 0)] st R := zX12_comparedg l X (FB := 8 * 7) (LB := 8 * 148) (Nat.le_of_ble_eq_true rfl) (Nat.le_of_ble_eq_true rfl) (grX12_ok l X 8).1 (grX12_ok l X 8).2 n st  R hf
def fX12_both (n : Nat) (st : St) : Option (St) := fX12_bothg (grX12 8).1 (grX12 8).2 n st 
theorem zX12_both (l : Launch) (X : WX) (n : Nat) (st : St)  (R : St) (hf : fX12_both n st  = some R) : CtV l yX12_both cX12_both 1 ({ frames := 62, cells := 0, slots := 0, locals := 1312 }) EM 43 X [.ref (xq X 0)] st R := zX12_bothg l X (FB := 8 * 7) (LB := 8 * 148) (Nat.le_of_ble_eq_true rfl) (Nat.le_of_ble_eq_true rfl) (grX12_ok l X 8).1 (grX12_ok l X 8).2 n st  R hf
def fX12_either (n : Nat) (st : St) : Option (St) := fX12_eitherg (grX12 8).1 (grX12 8).2 n st 
theorem zX12_either (l : Launch) (X : WX) (n : Nat) (st : St)  (R : St) (hf : fX12_either n st  = some R) : CtV l yX12_either cX12_either 1 ({ frames := 63, cells := 0, slots := 0, locals := 1332 }) EM 43 X [.ref (xq X 0)] st R := zX12_eitherg l X (FB := 8 * 7) (LB := 8 * 148) (Nat.le_of_ble_eq_true rfl) (Nat.le_of_ble_eq_true rfl) (grX12_ok l X 8).1 (grX12_ok l X 8).2 n st  R hf
theorem dX12_line_0 : decode cX12_line 0 = .ok (.bipush 61, 2) := by decide +kernel
theorem dX12_line_2 : decode cX12_line 2 = .ok (.aload_n 0, 1) := by decide +kernel
theorem dX12_line_3 : decode cX12_line 3 = .ok (.getfield 74, 3) := by decide +kernel
theorem dX12_line_6 : decode cX12_line 6 = .ok (.iconst 1, 1) := by decide +kernel
theorem dX12_line_7 : decode cX12_line 7 = .ok (.iaload, 1) := by decide +kernel
theorem dX12_line_8 : decode cX12_line 8 = .ok (.iadd, 1) := by decide +kernel
theorem dX12_line_9 : decode cX12_line 9 = .ok (.istore_n 1, 1) := by decide +kernel
theorem dX12_line_10 : decode cX12_line 10 = .ok (.aload_n 0, 1) := by decide +kernel
theorem dX12_line_11 : decode cX12_line 11 = .ok (.getfield 77, 3) := by decide +kernel
theorem dX12_line_14 : decode cX12_line 14 = .ok (.iload_n 1, 1) := by decide +kernel
theorem dX12_line_15 : decode cX12_line 15 = .ok (.aload_n 0, 1) := by decide +kernel
theorem dX12_line_16 : decode cX12_line 16 = .ok (.getfield 223, 3) := by decide +kernel
theorem dX12_line_19 : decode cX12_line 19 = .ok (.i2s, 1) := by decide +kernel
theorem dX12_line_20 : decode cX12_line 20 = .ok (.sastore, 1) := by decide +kernel
theorem dX12_line_21 : decode cX12_line 21 = .ok (.aload_n 0, 1) := by decide +kernel
theorem dX12_line_22 : decode cX12_line 22 = .ok (.invokevirtual 251, 3) := by decide +kernel
theorem dX12_line_25 : decode cX12_line 25 = .ok (.aload_n 0, 1) := by decide +kernel
theorem dX12_line_26 : decode cX12_line 26 = .ok (.getfield 220, 3) := by decide +kernel
theorem dX12_line_29 : decode cX12_line 29 = .ok (.ifCond .ge 37, 3) := by decide +kernel
theorem dX12_line_32 : decode cX12_line 32 = .ok (.aload_n 0, 1) := by decide +kernel
theorem dX12_line_33 : decode cX12_line 33 = .ok (.invokevirtual 232, 3) := by decide +kernel
theorem dX12_line_36 : decode cX12_line 36 = .ok (.bipush 63, 2) := by decide +kernel
theorem dX12_line_38 : decode cX12_line 38 = .ok (.if_icmp .ne 28, 3) := by decide +kernel
theorem dX12_line_41 : decode cX12_line 41 = .ok (.aload_n 0, 1) := by decide +kernel
theorem dX12_line_42 : decode cX12_line 42 = .ok (.dup, 1) := by decide +kernel
theorem dX12_line_43 : decode cX12_line 43 = .ok (.getfield 217, 3) := by decide +kernel
theorem dX12_line_46 : decode cX12_line 46 = .ok (.iconst 1, 1) := by decide +kernel
theorem dX12_line_47 : decode cX12_line 47 = .ok (.iadd, 1) := by decide +kernel
theorem dX12_line_48 : decode cX12_line 48 = .ok (.putfield 217, 3) := by decide +kernel
theorem dX12_line_51 : decode cX12_line 51 = .ok (.aload_n 0, 1) := by decide +kernel
theorem dX12_line_52 : decode cX12_line 52 = .ok (.getfield 77, 3) := by decide +kernel
theorem dX12_line_55 : decode cX12_line 55 = .ok (.iload_n 1, 1) := by decide +kernel
theorem dX12_line_56 : decode cX12_line 56 = .ok (.aload_n 0, 1) := by decide +kernel
theorem dX12_line_57 : decode cX12_line 57 = .ok (.getfield 223, 3) := by decide +kernel
theorem dX12_line_60 : decode cX12_line 60 = .ok (.i2s, 1) := by decide +kernel
theorem dX12_line_61 : decode cX12_line 61 = .ok (.sastore, 1) := by decide +kernel
theorem dX12_line_62 : decode cX12_line 62 = .ok (.aload_n 0, 1) := by decide +kernel
theorem dX12_line_63 : decode cX12_line 63 = .ok (.invokevirtual 251, 3) := by decide +kernel
theorem dX12_line_66 : decode cX12_line 66 = .ok (.aload_n 0, 1) := by decide +kernel
theorem dX12_line_67 : decode cX12_line 67 = .ok (.getfield 81, 3) := by decide +kernel
theorem dX12_line_70 : decode cX12_line 70 = .ok (.iload_n 1, 1) := by decide +kernel
theorem dX12_line_71 : decode cX12_line 71 = .ok (.aload_n 0, 1) := by decide +kernel
theorem dX12_line_72 : decode cX12_line 72 = .ok (.getfield 223, 3) := by decide +kernel
theorem dX12_line_75 : decode cX12_line 75 = .ok (.i2s, 1) := by decide +kernel
theorem dX12_line_76 : decode cX12_line 76 = .ok (.sastore, 1) := by decide +kernel
theorem dX12_line_77 : decode cX12_line 77 = .ok (.aload_n 0, 1) := by decide +kernel
theorem dX12_line_78 : decode cX12_line 78 = .ok (.getfield 74, 3) := by decide +kernel
theorem dX12_line_81 : decode cX12_line 81 = .ok (.iconst 1, 1) := by decide +kernel
theorem dX12_line_82 : decode cX12_line 82 = .ok (.dup2, 1) := by decide +kernel
theorem dX12_line_83 : decode cX12_line 83 = .ok (.iaload, 1) := by decide +kernel
theorem dX12_line_84 : decode cX12_line 84 = .ok (.iconst 1, 1) := by decide +kernel
theorem dX12_line_85 : decode cX12_line 85 = .ok (.iadd, 1) := by decide +kernel
theorem dX12_line_86 : decode cX12_line 86 = .ok (.iastore, 1) := by decide +kernel
theorem dX12_line_87 : decode cX12_line 87 = .ok (.return_, 1) := by decide +kernel
theorem ok_yX12_line : yOk yX12_line 0 := ⟨by decide +kernel, by decide +kernel, by decide +kernel⟩
def fX12_line_66 (n : Nat) (st : St) (v1 : Int32) : Option (St) := gd (inB v1 122) (bnd (sI st 24 v1.toNatClampNeg (vp_nar .short ((gI st 0 29).toInt16.toInt32))) (fun st20 => bnd (sI st20 22 1 ((gI st20 22 1) + (1 : Int32))) (fun st22 => some st22)))
set_option maxHeartbeats 4000000 in
theorem tX12_line_66 {p : Program} {l : Launch} {e : Env} {s : State} {m : MethodId} {args : Array Value} {below : List Frame} {meth : Method} {c : Code} {X : WX} (C : Amb 43 X p s m args meth c cX12_line 2 RX12) (hr : meth.sig.returnType = none) {R : St} {n : Nat} : ∀ (st : St) (v1 : Int32) (H : Heap) (locs : List Loc) (ls : Array Slot), Wd EM 43 X s.heap st H locs → lv_has ls 2 [(0, .ref (xq X 0)), (1, .int v1)] → fX12_line_66 n st v1 = some R → W p l e { frames := 64, cells := 0, slots := 0, locals := 1352 } s m args below meth c H locs 0 0 (QV EM 43 X R below args s) (F0 m 66 ls []) := by
  obtain ⟨hx, hb, hml, hown, hts⟩ := id C.1
  intro st v1 H locs ls  hw hl hf
  unfold fX12_line_66 at hf
  refine lv_aload_n hx hb dX12_line_66 rfl (lv_at hl 0 rfl) ?_
  refine w_get (T := TX12) C hw (by decide) 34 kf_X12_81 (EM_0 X _ _) rfl inA12 (by decide) rfl dX12_line_67 ?_
  refine lv_iload_n hx hb dX12_line_70 rfl (lv_at hl 1 rfl) ?_
  refine lv_aload_n hx hb dX12_line_71 rfl (lv_at hl 0 rfl) ?_
  refine w_get (T := TX12) C hw (by decide) 29 kf_X12_223 (EM_0 X _ _) rfl inA12 (by decide) rfl dX12_line_72 ?_
  refine lv_i2s (v := (gI st 0 29).toInt16.toInt32) hx hb dX12_line_75 rfl ?_
  obtain ⟨h19, hf⟩ := gd_some hf
  obtain ⟨st20, es21⟩ : ∃ z : St, z = sI st 24 v1.toNatClampNeg (vp_nar .short ((gI st 0 29).toInt16.toInt32)) := ⟨_, rfl⟩
  replace hf := bnd_nm hf es21
  refine w_sast C hw (by decide) (fun f9 => EM_24 X f9 _) h19 rfl dX12_line_76 (fun H locs hw => ?_)
  rw [← es21] at hw
  refine lv_aload_n hx hb dX12_line_77 rfl (lv_at hl 0 rfl) ?_
  refine w_get (T := TX12) C hw (by decide) 32 kf_X12_74 (EM_0 X _ _) rfl inA12 (by decide) rfl dX12_line_78 ?_
  refine lv_iconst (v := 1) hx hb dX12_line_81 (by decide) ?_
  refine lv_dup2_11 hx hb dX12_line_82 rfl rfl ?_
  refine w_iald C hw (by decide) (EM_22 X _ _) (by decide) (show (1 : Int32).toNatClampNeg = 1 by decide) dX12_line_83 ?_
  refine lv_iconst (v := 1) hx hb dX12_line_84 (by decide) ?_
  refine lv_iadd hx hb dX12_line_85 ?_
  obtain ⟨st22, es23⟩ : ∃ z : St, z = sI st20 22 1 ((gI st20 22 1) + (1 : Int32)) := ⟨_, rfl⟩
  replace hf := bnd_nm hf es23
  refine w_iast C hw (by decide) (fun f9 => EM_22 X f9 _) (by decide) (show (1 : Int32).toNatClampNeg = 1 by decide) dX12_line_86 (fun H locs hw => ?_)
  rw [← es23] at hw
  exact w_vret C hw hr (Option.some.inj hf) dX12_line_87
def fX12_line (n : Nat) (st : St) : Option (St) := bnd ((61 : Int32) + (gI st 22 1)) (fun x1 => gd (inB x1 122) (bnd (sI st 23 x1.toNatClampNeg (vp_nar .short ((gI st 0 29).toInt16.toInt32))) (fun st4 => (fX12_either n st4).bind (fun r6 => if 0 ≤ gI r6 0 27 then (fX12_line_66 n r6 x1) else ((fX12_look r6).bind (fun r9 => if r9 = (63 : Int32) then (bnd (sI r6 0 26 ((gI r6 0 26) + (1 : Int32))) (fun st12 => gd (inB x1 122) (bnd (sI st12 23 x1.toNatClampNeg (vp_nar .short ((gI st12 0 29).toInt16.toInt32))) (fun st15 => (fX12_either n st15).bind (fun r17 => fX12_line_66 n r17 x1))))) else (fX12_line_66 n r6 x1)))))))
set_option maxHeartbeats 4000000 in
theorem zX12_line (l : Launch) (X : WX) (n : Nat) (st : St)  (R : St) (hf : fX12_line n st = some R) : CtV l yX12_line cX12_line 2 ({ frames := 64, cells := 0, slots := 0, locals := 1352 }) EM 43 X [.ref (xq X 0)] st R := by
  refine ct_in (own := RX12) (by decide +kernel) rfl (Nat.le_of_ble_eq_true rfl) (fun p e s m below meth c C hr hw ls hl => ?_)
  obtain ⟨hx, hb, hml, hown, hts⟩ := id C.1
  have hl : lv_has ls 2 [(0, .ref (xq X 0))] := hl
  unfold fX12_line at hf
  refine lv_bipush (v := 61) hx hb dX12_line_0 (by decide) ?_
  refine lv_aload_n hx hb dX12_line_2 rfl (lv_at hl 0 rfl) ?_
  refine w_get (T := TX12) C hw (by decide) 32 kf_X12_74 (EM_0 X _ _) rfl inA12 (by decide) rfl dX12_line_3 ?_
  refine lv_iconst (v := 1) hx hb dX12_line_6 (by decide) ?_
  refine w_iald C hw (by decide) (EM_22 X _ _) (by decide) (show (1 : Int32).toNatClampNeg = 1 by decide) dX12_line_7 ?_
  refine lv_iadd hx hb dX12_line_8 ?_
  refine lv_topi (fun x1 e2 => ?_)
  replace hf := bnd_nm hf e2
  refine lv_istore_n (lv' := [(1, .int x1), (0, .ref (xq X 0))]) hx hb dX12_line_9 rfl hl (by decide) rfl (fun ls hl => ?_)
  refine lv_aload_n hx hb dX12_line_10 rfl (lv_at hl 1 rfl) ?_
  refine w_get (T := TX12) C hw (by decide) 33 kf_X12_77 (EM_0 X _ _) rfl inA12 (by decide) rfl dX12_line_11 ?_
  refine lv_iload_n hx hb dX12_line_14 rfl (lv_at hl 0 rfl) ?_
  refine lv_aload_n hx hb dX12_line_15 rfl (lv_at hl 1 rfl) ?_
  refine w_get (T := TX12) C hw (by decide) 29 kf_X12_223 (EM_0 X _ _) rfl inA12 (by decide) rfl dX12_line_16 ?_
  refine lv_i2s (v := (gI st 0 29).toInt16.toInt32) hx hb dX12_line_19 rfl ?_
  obtain ⟨h3, hf⟩ := gd_some hf
  obtain ⟨st4, es5⟩ : ∃ z : St, z = sI st 23 x1.toNatClampNeg (vp_nar .short ((gI st 0 29).toInt16.toInt32)) := ⟨_, rfl⟩
  replace hf := bnd_nm hf es5
  refine w_sast C hw (by decide) (fun f9 => EM_23 X f9 _) h3 rfl dX12_line_20 (fun H locs hw => ?_)
  rw [← es5] at hw
  refine lv_aload_n hx hb dX12_line_21 rfl (lv_at hl 1 rfl) ?_
  obtain ⟨r6, k7, hf⟩ := bd_some hf
  refine w_goV hw (w_runV (rest := []) C hw (zX12_either _ _ n st4 r6 k7) (by decide) (EM_0 X _ _) rfl km_X12_251 ki_yX12_either kv_X12_either kz_X12 kc_X12_either rfl ok_yX12_either ⟨Nat.le_of_ble_eq_true rfl, Nat.le_of_ble_eq_true rfl⟩ rfl rfl rfl rfl hl.1 (Nat.le_of_ble_eq_true rfl) dX12_line_22 ⟨Nat.zero_le _, Nat.zero_le _⟩) (fun H locs hw => ?_)
  refine lv_aload_n hx hb dX12_line_25 rfl (lv_at hl 1 rfl) ?_
  refine w_get (T := TX12) C hw (by decide) 27 kf_X12_220 (EM_0 X _ _) rfl inA12 (by decide) rfl dX12_line_26 ?_
  refine lv_if_ge (tgt := 66) hx hb dX12_line_29 (by decide) (fun c8 => ?_) (fun c8 => ?_)
  · replace hf := ite_t hf c8
    exact tX12_line_66 C hr r6 x1 _ _ _ hw (lv_sub hl [1, 0] rfl) hf
  · replace hf := ite_f hf c8
    refine lv_aload_n hx hb dX12_line_32 rfl (lv_at hl 1 rfl) ?_
    obtain ⟨r9, k10, hf⟩ := bd_some hf
    refine w_goI hw (w_runV (rest := []) C hw (zX12_look _ _ r6 r9 k10) (by decide) (EM_0 X _ _) rfl km_X12_232 ki_yX12_look kv_X12_look kz_X12 kc_X12_look rfl ok_yX12_look ⟨Nat.le_of_ble_eq_true rfl, Nat.le_of_ble_eq_true rfl⟩ rfl rfl rfl rfl hl.1 (Nat.le_of_ble_eq_true rfl) dX12_line_33 ⟨Nat.zero_le _, Nat.zero_le _⟩) (fun H locs hw => ?_)
    refine lv_bipush (v := 63) hx hb dX12_line_36 (by decide) ?_
    refine lv_icmp_ne (tgt := 66) hx hb dX12_line_38 (by decide) (fun c11 => ?_) (fun c11 => ?_)
    · replace hf := ite_f hf c11
      exact tX12_line_66 C hr r6 x1 _ _ _ hw (lv_sub hl [1, 0] rfl) hf
    · replace hf := ite_t hf c11
      refine lv_aload_n hx hb dX12_line_41 rfl (lv_at hl 1 rfl) ?_
      refine lv_dup hx hb dX12_line_42 rfl ?_
      refine w_get (T := TX12) C hw (by decide) 26 kf_X12_217 (EM_0 X _ _) rfl inA12 (by decide) rfl dX12_line_43 ?_
      refine lv_iconst (v := 1) hx hb dX12_line_46 (by decide) ?_
      refine lv_iadd hx hb dX12_line_47 ?_
      obtain ⟨st12, es13⟩ : ∃ z : St, z = sI r6 0 26 ((gI r6 0 26) + (1 : Int32)) := ⟨_, rfl⟩
      replace hf := bnd_nm hf es13
      refine w_puti (T := TX12) C hw (by decide) 26 kf_X12_217 (EM_0 X _ _) rfl inA12 tyX12_ok nmX12 (by decide) rfl rfl (Nat.le_of_ble_eq_true rfl) rfl dX12_line_48 (fun H locs hw => ?_)
      rw [← es13] at hw
      refine lv_aload_n hx hb dX12_line_51 rfl (lv_at hl 1 rfl) ?_
      refine w_get (T := TX12) C hw (by decide) 33 kf_X12_77 (EM_0 X _ _) rfl inA12 (by decide) rfl dX12_line_52 ?_
      refine lv_iload_n hx hb dX12_line_55 rfl (lv_at hl 0 rfl) ?_
      refine lv_aload_n hx hb dX12_line_56 rfl (lv_at hl 1 rfl) ?_
      refine w_get (T := TX12) C hw (by decide) 29 kf_X12_223 (EM_0 X _ _) rfl inA12 (by decide) rfl dX12_line_57 ?_
      refine lv_i2s (v := (gI st12 0 29).toInt16.toInt32) hx hb dX12_line_60 rfl ?_
      obtain ⟨h14, hf⟩ := gd_some hf
      obtain ⟨st15, es16⟩ : ∃ z : St, z = sI st12 23 x1.toNatClampNeg (vp_nar .short ((gI st12 0 29).toInt16.toInt32)) := ⟨_, rfl⟩
      replace hf := bnd_nm hf es16
      refine w_sast C hw (by decide) (fun f9 => EM_23 X f9 _) h14 rfl dX12_line_61 (fun H locs hw => ?_)
      rw [← es16] at hw
      refine lv_aload_n hx hb dX12_line_62 rfl (lv_at hl 1 rfl) ?_
      obtain ⟨r17, k18, hf⟩ := bd_some hf
      refine w_goV hw (w_runV (rest := []) C hw (zX12_either _ _ n st15 r17 k18) (by decide) (EM_0 X _ _) rfl km_X12_251 ki_yX12_either kv_X12_either kz_X12 kc_X12_either rfl ok_yX12_either ⟨Nat.le_of_ble_eq_true rfl, Nat.le_of_ble_eq_true rfl⟩ rfl rfl rfl rfl hl.1 (Nat.le_of_ble_eq_true rfl) dX12_line_63 ⟨Nat.zero_le _, Nat.zero_le _⟩) (fun H locs hw => ?_)
      exact tX12_line_66 C hr r17 x1 _ _ _ hw (lv_sub hl [1, 0] rfl) hf
theorem dX12_readText_0 : decode cX12_readText 0 = .ok (.aload_n 0, 1) := by decide +kernel
theorem dX12_readText_1 : decode cX12_readText 1 = .ok (.iconst 0, 1) := by decide +kernel
theorem dX12_readText_2 : decode cX12_readText 2 = .ok (.putfield 217, 3) := by decide +kernel
theorem dX12_readText_5 : decode cX12_readText 5 = .ok (.aload_n 0, 1) := by decide +kernel
theorem dX12_readText_6 : decode cX12_readText 6 = .ok (.iconst (-1), 1) := by decide +kernel
theorem dX12_readText_7 : decode cX12_readText 7 = .ok (.putfield 220, 3) := by decide +kernel
theorem dX12_readText_10 : decode cX12_readText 10 = .ok (.aload_n 0, 1) := by decide +kernel
theorem dX12_readText_11 : decode cX12_readText 11 = .ok (.iconst 0, 1) := by decide +kernel
theorem dX12_readText_12 : decode cX12_readText 12 = .ok (.putfield 226, 3) := by decide +kernel
theorem dX12_readText_15 : decode cX12_readText 15 = .ok (.aload_n 0, 1) := by decide +kernel
theorem dX12_readText_16 : decode cX12_readText 16 = .ok (.iconst 0, 1) := by decide +kernel
theorem dX12_readText_17 : decode cX12_readText 17 = .ok (.putfield 223, 3) := by decide +kernel
theorem dX12_readText_20 : decode cX12_readText 20 = .ok (.aload_n 0, 1) := by decide +kernel
theorem dX12_readText_21 : decode cX12_readText 21 = .ok (.getfield 74, 3) := by decide +kernel
theorem dX12_readText_24 : decode cX12_readText 24 = .ok (.iconst 1, 1) := by decide +kernel
theorem dX12_readText_25 : decode cX12_readText 25 = .ok (.iconst 0, 1) := by decide +kernel
theorem dX12_readText_26 : decode cX12_readText 26 = .ok (.iastore, 1) := by decide +kernel
theorem dX12_readText_27 : decode cX12_readText 27 = .ok (.aload_n 0, 1) := by decide +kernel
theorem dX12_readText_28 : decode cX12_readText 28 = .ok (.invokevirtual 269, 3) := by decide +kernel
theorem dX12_readText_31 : decode cX12_readText 31 = .ok (.aload_n 0, 1) := by decide +kernel
theorem dX12_readText_32 : decode cX12_readText 32 = .ok (.getfield 220, 3) := by decide +kernel
theorem dX12_readText_35 : decode cX12_readText 35 = .ok (.ifCond .ge 29, 3) := by decide +kernel
theorem dX12_readText_38 : decode cX12_readText 38 = .ok (.aload_n 0, 1) := by decide +kernel
theorem dX12_readText_39 : decode cX12_readText 39 = .ok (.invokevirtual 232, 3) := by decide +kernel
theorem dX12_readText_42 : decode cX12_readText 42 = .ok (.bipush 59, 2) := by decide +kernel
theorem dX12_readText_44 : decode cX12_readText 44 = .ok (.if_icmp .ne 20, 3) := by decide +kernel
theorem dX12_readText_47 : decode cX12_readText 47 = .ok (.aload_n 0, 1) := by decide +kernel
theorem dX12_readText_48 : decode cX12_readText 48 = .ok (.dup, 1) := by decide +kernel
theorem dX12_readText_49 : decode cX12_readText 49 = .ok (.getfield 217, 3) := by decide +kernel
theorem dX12_readText_52 : decode cX12_readText 52 = .ok (.iconst 1, 1) := by decide +kernel
theorem dX12_readText_53 : decode cX12_readText 53 = .ok (.iadd, 1) := by decide +kernel
theorem dX12_readText_54 : decode cX12_readText 54 = .ok (.putfield 217, 3) := by decide +kernel
theorem dX12_readText_57 : decode cX12_readText 57 = .ok (.aload_n 0, 1) := by decide +kernel
theorem dX12_readText_58 : decode cX12_readText 58 = .ok (.invokevirtual 269, 3) := by decide +kernel
theorem dX12_readText_61 : decode cX12_readText 61 = .ok (.goto (-30), 3) := by decide +kernel
theorem dX12_readText_64 : decode cX12_readText 64 = .ok (.aload_n 0, 1) := by decide +kernel
theorem dX12_readText_65 : decode cX12_readText 65 = .ok (.getfield 220, 3) := by decide +kernel
theorem dX12_readText_68 : decode cX12_readText 68 = .ok (.ifCond .ge 18, 3) := by decide +kernel
theorem dX12_readText_71 : decode cX12_readText 71 = .ok (.aload_n 0, 1) := by decide +kernel
theorem dX12_readText_72 : decode cX12_readText 72 = .ok (.getfield 217, 3) := by decide +kernel
theorem dX12_readText_75 : decode cX12_readText 75 = .ok (.aload_n 0, 1) := by decide +kernel
theorem dX12_readText_76 : decode cX12_readText 76 = .ok (.getfield 214, 3) := by decide +kernel
theorem dX12_readText_79 : decode cX12_readText 79 = .ok (.if_icmp .ge 7, 3) := by decide +kernel
theorem dX12_readText_82 : decode cX12_readText 82 = .ok (.aload_n 0, 1) := by decide +kernel
theorem dX12_readText_83 : decode cX12_readText 83 = .ok (.invokevirtual 229, 3) := by decide +kernel
theorem dX12_readText_86 : decode cX12_readText 86 = .ok (.aload_n 0, 1) := by decide +kernel
theorem dX12_readText_87 : decode cX12_readText 87 = .ok (.iconst 0, 1) := by decide +kernel
theorem dX12_readText_88 : decode cX12_readText 88 = .ok (.putfield 214, 3) := by decide +kernel
theorem dX12_readText_91 : decode cX12_readText 91 = .ok (.aload_n 0, 1) := by decide +kernel
theorem dX12_readText_92 : decode cX12_readText 92 = .ok (.getfield 220, 3) := by decide +kernel
theorem dX12_readText_95 : decode cX12_readText 95 = .ok (.ifCond .lt 8, 3) := by decide +kernel
theorem dX12_readText_98 : decode cX12_readText 98 = .ok (.aload_n 0, 1) := by decide +kernel
theorem dX12_readText_99 : decode cX12_readText 99 = .ok (.getfield 220, 3) := by decide +kernel
theorem dX12_readText_102 : decode cX12_readText 102 = .ok (.ireturn, 1) := by decide +kernel
theorem dX12_readText_103 : decode cX12_readText 103 = .ok (.iconst 0, 1) := by decide +kernel
theorem dX12_readText_104 : decode cX12_readText 104 = .ok (.istore_n 2, 1) := by decide +kernel
theorem dX12_readText_105 : decode cX12_readText 105 = .ok (.iload_n 2, 1) := by decide +kernel
theorem dX12_readText_106 : decode cX12_readText 106 = .ok (.aload_n 0, 1) := by decide +kernel
theorem dX12_readText_107 : decode cX12_readText 107 = .ok (.getfield 223, 3) := by decide +kernel
theorem dX12_readText_110 : decode cX12_readText 110 = .ok (.if_icmp .ge 53, 3) := by decide +kernel
theorem dX12_readText_113 : decode cX12_readText 113 = .ok (.aload_n 0, 1) := by decide +kernel
theorem dX12_readText_114 : decode cX12_readText 114 = .ok (.getfield 68, 3) := by decide +kernel
theorem dX12_readText_117 : decode cX12_readText 117 = .ok (.sipush 130, 3) := by decide +kernel
theorem dX12_readText_120 : decode cX12_readText 120 = .ok (.iload_n 1, 1) := by decide +kernel
theorem dX12_readText_121 : decode cX12_readText 121 = .ok (.imul, 1) := by decide +kernel
theorem dX12_readText_122 : decode cX12_readText 122 = .ok (.iload_n 2, 1) := by decide +kernel
theorem dX12_readText_123 : decode cX12_readText 123 = .ok (.iadd, 1) := by decide +kernel
theorem dX12_readText_124 : decode cX12_readText 124 = .ok (.aload_n 0, 1) := by decide +kernel
theorem dX12_readText_125 : decode cX12_readText 125 = .ok (.getfield 68, 3) := by decide +kernel
theorem dX12_readText_128 : decode cX12_readText 128 = .ok (.sipush 130, 3) := by decide +kernel
theorem dX12_readText_131 : decode cX12_readText 131 = .ok (.iload_n 2, 1) := by decide +kernel
theorem dX12_readText_132 : decode cX12_readText 132 = .ok (.iadd, 1) := by decide +kernel
theorem dX12_readText_133 : decode cX12_readText 133 = .ok (.baload, 1) := by decide +kernel
theorem dX12_readText_134 : decode cX12_readText 134 = .ok (.bastore, 1) := by decide +kernel
theorem dX12_readText_135 : decode cX12_readText 135 = .ok (.aload_n 0, 1) := by decide +kernel
theorem dX12_readText_136 : decode cX12_readText 136 = .ok (.getfield 71, 3) := by decide +kernel
theorem dX12_readText_139 : decode cX12_readText 139 = .ok (.sipush 130, 3) := by decide +kernel
theorem dX12_readText_142 : decode cX12_readText 142 = .ok (.iload_n 1, 1) := by decide +kernel
theorem dX12_readText_143 : decode cX12_readText 143 = .ok (.imul, 1) := by decide +kernel
theorem dX12_readText_144 : decode cX12_readText 144 = .ok (.iload_n 2, 1) := by decide +kernel
theorem dX12_readText_145 : decode cX12_readText 145 = .ok (.iadd, 1) := by decide +kernel
theorem dX12_readText_146 : decode cX12_readText 146 = .ok (.aload_n 0, 1) := by decide +kernel
theorem dX12_readText_147 : decode cX12_readText 147 = .ok (.getfield 71, 3) := by decide +kernel
theorem dX12_readText_150 : decode cX12_readText 150 = .ok (.sipush 130, 3) := by decide +kernel
theorem dX12_readText_153 : decode cX12_readText 153 = .ok (.iload_n 2, 1) := by decide +kernel
theorem dX12_readText_154 : decode cX12_readText 154 = .ok (.iadd, 1) := by decide +kernel
theorem dX12_readText_155 : decode cX12_readText 155 = .ok (.iaload, 1) := by decide +kernel
theorem dX12_readText_156 : decode cX12_readText 156 = .ok (.iastore, 1) := by decide +kernel
theorem dX12_readText_157 : decode cX12_readText 157 = .ok (.iinc 2 1, 3) := by decide +kernel
theorem dX12_readText_160 : decode cX12_readText 160 = .ok (.goto (-55), 3) := by decide +kernel
theorem dX12_readText_163 : decode cX12_readText 163 = .ok (.aload_n 0, 1) := by decide +kernel
theorem dX12_readText_164 : decode cX12_readText 164 = .ok (.getfield 74, 3) := by decide +kernel
theorem dX12_readText_167 : decode cX12_readText 167 = .ok (.iload_n 1, 1) := by decide +kernel
theorem dX12_readText_168 : decode cX12_readText 168 = .ok (.aload_n 0, 1) := by decide +kernel
theorem dX12_readText_169 : decode cX12_readText 169 = .ok (.getfield 74, 3) := by decide +kernel
theorem dX12_readText_172 : decode cX12_readText 172 = .ok (.iconst 1, 1) := by decide +kernel
theorem dX12_readText_173 : decode cX12_readText 173 = .ok (.iaload, 1) := by decide +kernel
theorem dX12_readText_174 : decode cX12_readText 174 = .ok (.iastore, 1) := by decide +kernel
theorem dX12_readText_175 : decode cX12_readText 175 = .ok (.iconst 0, 1) := by decide +kernel
theorem dX12_readText_176 : decode cX12_readText 176 = .ok (.istore_n 2, 1) := by decide +kernel
theorem dX12_readText_177 : decode cX12_readText 177 = .ok (.iload_n 2, 1) := by decide +kernel
theorem dX12_readText_178 : decode cX12_readText 178 = .ok (.aload_n 0, 1) := by decide +kernel
theorem dX12_readText_179 : decode cX12_readText 179 = .ok (.getfield 74, 3) := by decide +kernel
theorem dX12_readText_182 : decode cX12_readText 182 = .ok (.iload_n 1, 1) := by decide +kernel
theorem dX12_readText_183 : decode cX12_readText 183 = .ok (.iaload, 1) := by decide +kernel
theorem dX12_readText_184 : decode cX12_readText 184 = .ok (.if_icmp .ge 49, 3) := by decide +kernel
theorem dX12_readText_187 : decode cX12_readText 187 = .ok (.aload_n 0, 1) := by decide +kernel
theorem dX12_readText_188 : decode cX12_readText 188 = .ok (.getfield 77, 3) := by decide +kernel
theorem dX12_readText_191 : decode cX12_readText 191 = .ok (.bipush 61, 2) := by decide +kernel
theorem dX12_readText_193 : decode cX12_readText 193 = .ok (.iload_n 1, 1) := by decide +kernel
theorem dX12_readText_194 : decode cX12_readText 194 = .ok (.imul, 1) := by decide +kernel
theorem dX12_readText_195 : decode cX12_readText 195 = .ok (.iload_n 2, 1) := by decide +kernel
theorem dX12_readText_196 : decode cX12_readText 196 = .ok (.iadd, 1) := by decide +kernel
theorem dX12_readText_197 : decode cX12_readText 197 = .ok (.aload_n 0, 1) := by decide +kernel
theorem dX12_readText_198 : decode cX12_readText 198 = .ok (.getfield 77, 3) := by decide +kernel
theorem dX12_readText_201 : decode cX12_readText 201 = .ok (.bipush 61, 2) := by decide +kernel
theorem dX12_readText_203 : decode cX12_readText 203 = .ok (.iload_n 2, 1) := by decide +kernel
theorem dX12_readText_204 : decode cX12_readText 204 = .ok (.iadd, 1) := by decide +kernel
theorem dX12_readText_205 : decode cX12_readText 205 = .ok (.saload, 1) := by decide +kernel
theorem dX12_readText_206 : decode cX12_readText 206 = .ok (.sastore, 1) := by decide +kernel
theorem dX12_readText_207 : decode cX12_readText 207 = .ok (.aload_n 0, 1) := by decide +kernel
theorem dX12_readText_208 : decode cX12_readText 208 = .ok (.getfield 81, 3) := by decide +kernel
theorem dX12_readText_211 : decode cX12_readText 211 = .ok (.bipush 61, 2) := by decide +kernel
theorem dX12_readText_213 : decode cX12_readText 213 = .ok (.iload_n 1, 1) := by decide +kernel
theorem dX12_readText_214 : decode cX12_readText 214 = .ok (.imul, 1) := by decide +kernel
theorem dX12_readText_215 : decode cX12_readText 215 = .ok (.iload_n 2, 1) := by decide +kernel
theorem dX12_readText_216 : decode cX12_readText 216 = .ok (.iadd, 1) := by decide +kernel
theorem dX12_readText_217 : decode cX12_readText 217 = .ok (.aload_n 0, 1) := by decide +kernel
theorem dX12_readText_218 : decode cX12_readText 218 = .ok (.getfield 81, 3) := by decide +kernel
theorem dX12_readText_221 : decode cX12_readText 221 = .ok (.bipush 61, 2) := by decide +kernel
theorem dX12_readText_223 : decode cX12_readText 223 = .ok (.iload_n 2, 1) := by decide +kernel
theorem dX12_readText_224 : decode cX12_readText 224 = .ok (.iadd, 1) := by decide +kernel
theorem dX12_readText_225 : decode cX12_readText 225 = .ok (.saload, 1) := by decide +kernel
theorem dX12_readText_226 : decode cX12_readText 226 = .ok (.sastore, 1) := by decide +kernel
theorem dX12_readText_227 : decode cX12_readText 227 = .ok (.iinc 2 1, 3) := by decide +kernel
theorem dX12_readText_230 : decode cX12_readText 230 = .ok (.goto (-53), 3) := by decide +kernel
theorem dX12_readText_233 : decode cX12_readText 233 = .ok (.iconst (-1), 1) := by decide +kernel
theorem dX12_readText_234 : decode cX12_readText 234 = .ok (.ireturn, 1) := by decide +kernel
theorem ok_yX12_readText : yOk yX12_readText 1 := ⟨by decide +kernel, by decide +kernel, by decide +kernel⟩
def fX12_readText_177 (n : Nat) : Nat → St → Int32 → Int32 → Option (Int32 × St)
  | 0, _, _, _ => none
  | k + 1, st, v1, v2 => gd (inB v1 2) (if gI st 22 v1.toNatClampNeg ≤ v2 then (some ((-1 : Int32), st)) else (gd (inB ((61 : Int32) + v2) 122) (gd (inB (((61 : Int32) * v1) + v2) 122) (bnd (sI st 23 (((61 : Int32) * v1) + v2).toNatClampNeg (vp_nar .short (gI st 23 ((61 : Int32) + v2).toNatClampNeg))) (fun st46 => gd (inB ((61 : Int32) + v2) 122) (gd (inB (((61 : Int32) * v1) + v2) 122) (bnd (sI st46 24 (((61 : Int32) * v1) + v2).toNatClampNeg (vp_nar .short (gI st46 24 ((61 : Int32) + v2).toNatClampNeg))) (fun st50 => bnd (v2 + (1 : Int32)) (fun x52 => fX12_readText_177 n k st50 v1 x52)))))))))
set_option maxHeartbeats 4000000 in
theorem tX12_readText_177 {p : Program} {l : Launch} {e : Env} {s : State} {m : MethodId} {args : Array Value} {below : List Frame} {meth : Method} {c : Code} {X : WX} (C : Amb 43 X p s m args meth c cX12_readText 3 RX12) (hr : meth.sig.returnType = some .int) {R : Int32 × St} {n : Nat} : ∀ (k : Nat) (st : St) (v1 : Int32) (v2 : Int32) (H : Heap) (locs : List Loc) (ls : Array Slot), Wd EM 43 X s.heap st H locs → lv_has ls 3 [(0, .ref (xq X 0)), (1, .int v1), (2, .int v2)] → fX12_readText_177 n k st v1 v2 = some R → W p l e { frames := 65, cells := 0, slots := 0, locals := 1373 } s m args below meth c H locs 0 0 (QI EM 43 X R.1 R.2 below args s) (F0 m 177 ls []) := by
  obtain ⟨hx, hb, hml, hown, hts⟩ := id C.1
  intro k
  induction k with
  | zero => intro st v1 v2 H locs ls  hw hl hf; exact absurd (show none = some R from hf) (fun z => by cases z)
  | succ k ih =>
    intro st v1 v2 H locs ls  hw hl hf
    rw [fX12_readText_177] at hf
    refine lv_iload_n hx hb dX12_readText_177 rfl (lv_at hl 2 rfl) ?_
    refine lv_aload_n hx hb dX12_readText_178 rfl (lv_at hl 0 rfl) ?_
    refine w_get (T := TX12) C hw (by decide) 32 kf_X12_74 (EM_0 X _ _) rfl inA12 (by decide) rfl dX12_readText_179 ?_
    refine lv_iload_n hx hb dX12_readText_182 rfl (lv_at hl 1 rfl) ?_
    obtain ⟨h42, hf⟩ := gd_some hf
    refine w_iald C hw (by decide) (EM_22 X _ _) h42 rfl dX12_readText_183 ?_
    refine lv_icmp_ge (tgt := 233) hx hb dX12_readText_184 (by decide) (fun c43 => ?_) (fun c43 => ?_)
    · replace hf := ite_t hf c43
      refine lv_iconst (v := -1) hx hb dX12_readText_233 (by decide) ?_
      exact w_iret C hw hr (so2 hf).1 (so2 hf).2 dX12_readText_234
    · replace hf := ite_f hf c43
      refine lv_aload_n hx hb dX12_readText_187 rfl (lv_at hl 0 rfl) ?_
      refine w_get (T := TX12) C hw (by decide) 33 kf_X12_77 (EM_0 X _ _) rfl inA12 (by decide) rfl dX12_readText_188 ?_
      refine lv_bipush (v := 61) hx hb dX12_readText_191 (by decide) ?_
      refine lv_iload_n hx hb dX12_readText_193 rfl (lv_at hl 1 rfl) ?_
      refine lv_imul hx hb dX12_readText_194 ?_
      refine lv_iload_n hx hb dX12_readText_195 rfl (lv_at hl 2 rfl) ?_
      refine lv_iadd hx hb dX12_readText_196 ?_
      refine lv_aload_n hx hb dX12_readText_197 rfl (lv_at hl 0 rfl) ?_
      refine w_get (T := TX12) C hw (by decide) 33 kf_X12_77 (EM_0 X _ _) rfl inA12 (by decide) rfl dX12_readText_198 ?_
      refine lv_bipush (v := 61) hx hb dX12_readText_201 (by decide) ?_
      refine lv_iload_n hx hb dX12_readText_203 rfl (lv_at hl 2 rfl) ?_
      refine lv_iadd hx hb dX12_readText_204 ?_
      obtain ⟨h44, hf⟩ := gd_some hf
      refine w_sald C hw (by decide) (EM_23 X _ _) h44 rfl dX12_readText_205 ?_
      obtain ⟨h45, hf⟩ := gd_some hf
      obtain ⟨st46, es47⟩ : ∃ z : St, z = sI st 23 (((61 : Int32) * v1) + v2).toNatClampNeg (vp_nar .short (gI st 23 ((61 : Int32) + v2).toNatClampNeg)) := ⟨_, rfl⟩
      replace hf := bnd_nm hf es47
      refine w_sast C hw (by decide) (fun f9 => EM_23 X f9 _) h45 rfl dX12_readText_206 (fun H locs hw => ?_)
      rw [← es47] at hw
      refine lv_aload_n hx hb dX12_readText_207 rfl (lv_at hl 0 rfl) ?_
      refine w_get (T := TX12) C hw (by decide) 34 kf_X12_81 (EM_0 X _ _) rfl inA12 (by decide) rfl dX12_readText_208 ?_
      refine lv_bipush (v := 61) hx hb dX12_readText_211 (by decide) ?_
      refine lv_iload_n hx hb dX12_readText_213 rfl (lv_at hl 1 rfl) ?_
      refine lv_imul hx hb dX12_readText_214 ?_
      refine lv_iload_n hx hb dX12_readText_215 rfl (lv_at hl 2 rfl) ?_
      refine lv_iadd hx hb dX12_readText_216 ?_
      refine lv_aload_n hx hb dX12_readText_217 rfl (lv_at hl 0 rfl) ?_
      refine w_get (T := TX12) C hw (by decide) 34 kf_X12_81 (EM_0 X _ _) rfl inA12 (by decide) rfl dX12_readText_218 ?_
      refine lv_bipush (v := 61) hx hb dX12_readText_221 (by decide) ?_
      refine lv_iload_n hx hb dX12_readText_223 rfl (lv_at hl 2 rfl) ?_
      refine lv_iadd hx hb dX12_readText_224 ?_
      obtain ⟨h48, hf⟩ := gd_some hf
      refine w_sald C hw (by decide) (EM_24 X _ _) h48 rfl dX12_readText_225 ?_
      obtain ⟨h49, hf⟩ := gd_some hf
      obtain ⟨st50, es51⟩ : ∃ z : St, z = sI st46 24 (((61 : Int32) * v1) + v2).toNatClampNeg (vp_nar .short (gI st46 24 ((61 : Int32) + v2).toNatClampNeg)) := ⟨_, rfl⟩
      replace hf := bnd_nm hf es51
      refine w_sast C hw (by decide) (fun f9 => EM_24 X f9 _) h49 rfl dX12_readText_226 (fun H locs hw => ?_)
      rw [← es51] at hw
      obtain ⟨x52, e53⟩ : ∃ z : Int32, z = v2 + (1 : Int32) := ⟨_, rfl⟩
      replace hf := bnd_nm hf e53
      refine lv_iinc (v := x52) (lv' := [(2, .int x52), (0, .ref (xq X 0)), (1, .int v1)]) hx hb dX12_readText_227 hl (k := 2) rfl (by rw [e53]; rfl) (by decide) rfl (fun ls hl => ?_)
      refine lv_goto (tgt := 177) hx hb dX12_readText_230 (by decide) ?_
      exact ih st50 v1 x52 _ _ _ hw (lv_sub hl [1, 2, 0] rfl) hf
def fX12_readText_105 (n : Nat) : Nat → St → Int32 → Int32 → Option (Int32 × St)
  | 0, _, _, _ => none
  | k + 1, st, v1, v2 => if gI st 0 29 ≤ v2 then (gd (inB v1 2) (bnd (sI st 22 v1.toNatClampNeg (gI st 22 1)) (fun st30 => fX12_readText_177 n n st30 v1 (0 : Int32)))) else (gd (inB ((130 : Int32) + v2) 260) (gd (inB (((130 : Int32) * v1) + v2) 260) (bnd (sI st 20 (((130 : Int32) * v1) + v2).toNatClampNeg (vp_nar .byte (gI st 20 ((130 : Int32) + v2).toNatClampNeg))) (fun st34 => gd (inB ((130 : Int32) + v2) 260) (gd (inB (((130 : Int32) * v1) + v2) 260) (bnd (sI st34 21 (((130 : Int32) * v1) + v2).toNatClampNeg (gI st34 21 ((130 : Int32) + v2).toNatClampNeg)) (fun st38 => bnd (v2 + (1 : Int32)) (fun x40 => fX12_readText_105 n k st38 v1 x40))))))))
set_option maxHeartbeats 4000000 in
theorem tX12_readText_105 {p : Program} {l : Launch} {e : Env} {s : State} {m : MethodId} {args : Array Value} {below : List Frame} {meth : Method} {c : Code} {X : WX} (C : Amb 43 X p s m args meth c cX12_readText 3 RX12) (hr : meth.sig.returnType = some .int) {R : Int32 × St} {n : Nat} : ∀ (k : Nat) (st : St) (v1 : Int32) (v2 : Int32) (H : Heap) (locs : List Loc) (ls : Array Slot), Wd EM 43 X s.heap st H locs → lv_has ls 3 [(0, .ref (xq X 0)), (1, .int v1), (2, .int v2)] → fX12_readText_105 n k st v1 v2 = some R → W p l e { frames := 65, cells := 0, slots := 0, locals := 1373 } s m args below meth c H locs 0 0 (QI EM 43 X R.1 R.2 below args s) (F0 m 105 ls []) := by
  obtain ⟨hx, hb, hml, hown, hts⟩ := id C.1
  intro k
  induction k with
  | zero => intro st v1 v2 H locs ls  hw hl hf; exact absurd (show none = some R from hf) (fun z => by cases z)
  | succ k ih =>
    intro st v1 v2 H locs ls  hw hl hf
    rw [fX12_readText_105] at hf
    refine lv_iload_n hx hb dX12_readText_105 rfl (lv_at hl 2 rfl) ?_
    refine lv_aload_n hx hb dX12_readText_106 rfl (lv_at hl 0 rfl) ?_
    refine w_get (T := TX12) C hw (by decide) 29 kf_X12_223 (EM_0 X _ _) rfl inA12 (by decide) rfl dX12_readText_107 ?_
    refine lv_icmp_ge (tgt := 163) hx hb dX12_readText_110 (by decide) (fun c28 => ?_) (fun c28 => ?_)
    · replace hf := ite_t hf c28
      refine lv_aload_n hx hb dX12_readText_163 rfl (lv_at hl 0 rfl) ?_
      refine w_get (T := TX12) C hw (by decide) 32 kf_X12_74 (EM_0 X _ _) rfl inA12 (by decide) rfl dX12_readText_164 ?_
      refine lv_iload_n hx hb dX12_readText_167 rfl (lv_at hl 1 rfl) ?_
      refine lv_aload_n hx hb dX12_readText_168 rfl (lv_at hl 0 rfl) ?_
      refine w_get (T := TX12) C hw (by decide) 32 kf_X12_74 (EM_0 X _ _) rfl inA12 (by decide) rfl dX12_readText_169 ?_
      refine lv_iconst (v := 1) hx hb dX12_readText_172 (by decide) ?_
      refine w_iald C hw (by decide) (EM_22 X _ _) (by decide) (show (1 : Int32).toNatClampNeg = 1 by decide) dX12_readText_173 ?_
      obtain ⟨h29, hf⟩ := gd_some hf
      obtain ⟨st30, es31⟩ : ∃ z : St, z = sI st 22 v1.toNatClampNeg (gI st 22 1) := ⟨_, rfl⟩
      replace hf := bnd_nm hf es31
      refine w_iast C hw (by decide) (fun f9 => EM_22 X f9 _) h29 rfl dX12_readText_174 (fun H locs hw => ?_)
      rw [← es31] at hw
      refine lv_iconst (v := 0) hx hb dX12_readText_175 (by decide) ?_
      refine lv_istore_n (lv' := [(2, .int (0 : Int32)), (0, .ref (xq X 0)), (1, .int v1)]) hx hb dX12_readText_176 rfl hl (by decide) rfl (fun ls hl => ?_)
      exact tX12_readText_177 C hr n st30 v1 (0 : Int32) _ _ _ hw (lv_sub hl [1, 2, 0] rfl) hf
    · replace hf := ite_f hf c28
      refine lv_aload_n hx hb dX12_readText_113 rfl (lv_at hl 0 rfl) ?_
      refine w_get (T := TX12) C hw (by decide) 30 kf_X12_68 (EM_0 X _ _) rfl inA12 (by decide) rfl dX12_readText_114 ?_
      refine lv_sipush (v := 130) hx hb dX12_readText_117 (by decide) ?_
      refine lv_iload_n hx hb dX12_readText_120 rfl (lv_at hl 1 rfl) ?_
      refine lv_imul hx hb dX12_readText_121 ?_
      refine lv_iload_n hx hb dX12_readText_122 rfl (lv_at hl 2 rfl) ?_
      refine lv_iadd hx hb dX12_readText_123 ?_
      refine lv_aload_n hx hb dX12_readText_124 rfl (lv_at hl 0 rfl) ?_
      refine w_get (T := TX12) C hw (by decide) 30 kf_X12_68 (EM_0 X _ _) rfl inA12 (by decide) rfl dX12_readText_125 ?_
      refine lv_sipush (v := 130) hx hb dX12_readText_128 (by decide) ?_
      refine lv_iload_n hx hb dX12_readText_131 rfl (lv_at hl 2 rfl) ?_
      refine lv_iadd hx hb dX12_readText_132 ?_
      obtain ⟨h32, hf⟩ := gd_some hf
      refine w_bald C hw (by decide) (EM_20 X _ _) h32 rfl dX12_readText_133 ?_
      obtain ⟨h33, hf⟩ := gd_some hf
      obtain ⟨st34, es35⟩ : ∃ z : St, z = sI st 20 (((130 : Int32) * v1) + v2).toNatClampNeg (vp_nar .byte (gI st 20 ((130 : Int32) + v2).toNatClampNeg)) := ⟨_, rfl⟩
      replace hf := bnd_nm hf es35
      refine w_bast C hw (by decide) (fun f9 => EM_20 X f9 _) h33 rfl dX12_readText_134 (fun H locs hw => ?_)
      rw [← es35] at hw
      refine lv_aload_n hx hb dX12_readText_135 rfl (lv_at hl 0 rfl) ?_
      refine w_get (T := TX12) C hw (by decide) 31 kf_X12_71 (EM_0 X _ _) rfl inA12 (by decide) rfl dX12_readText_136 ?_
      refine lv_sipush (v := 130) hx hb dX12_readText_139 (by decide) ?_
      refine lv_iload_n hx hb dX12_readText_142 rfl (lv_at hl 1 rfl) ?_
      refine lv_imul hx hb dX12_readText_143 ?_
      refine lv_iload_n hx hb dX12_readText_144 rfl (lv_at hl 2 rfl) ?_
      refine lv_iadd hx hb dX12_readText_145 ?_
      refine lv_aload_n hx hb dX12_readText_146 rfl (lv_at hl 0 rfl) ?_
      refine w_get (T := TX12) C hw (by decide) 31 kf_X12_71 (EM_0 X _ _) rfl inA12 (by decide) rfl dX12_readText_147 ?_
      refine lv_sipush (v := 130) hx hb dX12_readText_150 (by decide) ?_
      refine lv_iload_n hx hb dX12_readText_153 rfl (lv_at hl 2 rfl) ?_
      refine lv_iadd hx hb dX12_readText_154 ?_
      obtain ⟨h36, hf⟩ := gd_some hf
      refine w_iald C hw (by decide) (EM_21 X _ _) h36 rfl dX12_readText_155 ?_
      obtain ⟨h37, hf⟩ := gd_some hf
      obtain ⟨st38, es39⟩ : ∃ z : St, z = sI st34 21 (((130 : Int32) * v1) + v2).toNatClampNeg (gI st34 21 ((130 : Int32) + v2).toNatClampNeg) := ⟨_, rfl⟩
      replace hf := bnd_nm hf es39
      refine w_iast C hw (by decide) (fun f9 => EM_21 X f9 _) h37 rfl dX12_readText_156 (fun H locs hw => ?_)
      rw [← es39] at hw
      obtain ⟨x40, e41⟩ : ∃ z : Int32, z = v2 + (1 : Int32) := ⟨_, rfl⟩
      replace hf := bnd_nm hf e41
      refine lv_iinc (v := x40) (lv' := [(2, .int x40), (0, .ref (xq X 0)), (1, .int v1)]) hx hb dX12_readText_157 hl (k := 2) rfl (by rw [e41]; rfl) (by decide) rfl (fun ls hl => ?_)
      refine lv_goto (tgt := 105) hx hb dX12_readText_160 (by decide) ?_
      exact ih st38 v1 x40 _ _ _ hw (lv_sub hl [1, 2, 0] rfl) hf
def fX12_readText_86 (n : Nat) (st : St) (v1 : Int32) : Option (Int32 × St) := bnd (sI st 0 25 (0 : Int32)) (fun st25 => if gI st25 0 27 < 0 then (fX12_readText_105 n n st25 v1 (0 : Int32)) else (some ((gI st25 0 27), st25)))
set_option maxHeartbeats 4000000 in
theorem tX12_readText_86 {p : Program} {l : Launch} {e : Env} {s : State} {m : MethodId} {args : Array Value} {below : List Frame} {meth : Method} {c : Code} {X : WX} (C : Amb 43 X p s m args meth c cX12_readText 3 RX12) (hr : meth.sig.returnType = some .int) {R : Int32 × St} {n : Nat} : ∀ (st : St) (v1 : Int32) (H : Heap) (locs : List Loc) (ls : Array Slot), Wd EM 43 X s.heap st H locs → lv_has ls 3 [(0, .ref (xq X 0)), (1, .int v1)] → fX12_readText_86 n st v1 = some R → W p l e { frames := 65, cells := 0, slots := 0, locals := 1373 } s m args below meth c H locs 0 0 (QI EM 43 X R.1 R.2 below args s) (F0 m 86 ls []) := by
  obtain ⟨hx, hb, hml, hown, hts⟩ := id C.1
  intro st v1 H locs ls  hw hl hf
  unfold fX12_readText_86 at hf
  refine lv_aload_n hx hb dX12_readText_86 rfl (lv_at hl 0 rfl) ?_
  refine lv_iconst (v := 0) hx hb dX12_readText_87 (by decide) ?_
  obtain ⟨st25, es26⟩ : ∃ z : St, z = sI st 0 25 (0 : Int32) := ⟨_, rfl⟩
  replace hf := bnd_nm hf es26
  refine w_puti (T := TX12) C hw (by decide) 25 kf_X12_214 (EM_0 X _ _) rfl inA12 tyX12_ok nmX12 (by decide) rfl rfl (Nat.le_of_ble_eq_true rfl) rfl dX12_readText_88 (fun H locs hw => ?_)
  rw [← es26] at hw
  refine lv_aload_n hx hb dX12_readText_91 rfl (lv_at hl 0 rfl) ?_
  refine w_get (T := TX12) C hw (by decide) 27 kf_X12_220 (EM_0 X _ _) rfl inA12 (by decide) rfl dX12_readText_92 ?_
  refine lv_if_lt (tgt := 103) hx hb dX12_readText_95 (by decide) (fun c27 => ?_) (fun c27 => ?_)
  · replace hf := ite_t hf c27
    refine lv_iconst (v := 0) hx hb dX12_readText_103 (by decide) ?_
    refine lv_istore_n (lv' := [(2, .int (0 : Int32)), (0, .ref (xq X 0)), (1, .int v1)]) hx hb dX12_readText_104 rfl hl (by decide) rfl (fun ls hl => ?_)
    exact tX12_readText_105 C hr n st25 v1 (0 : Int32) _ _ _ hw (lv_sub hl [1, 2, 0] rfl) hf
  · replace hf := ite_f hf c27
    refine lv_aload_n hx hb dX12_readText_98 rfl (lv_at hl 0 rfl) ?_
    refine w_get (T := TX12) C hw (by decide) 27 kf_X12_220 (EM_0 X _ _) rfl inA12 (by decide) rfl dX12_readText_99 ?_
    exact w_iret C hw hr (so2 hf).1 (so2 hf).2 dX12_readText_102
def fX12_readText_64 (n : Nat) (st : St) (v1 : Int32) : Option (Int32 × St) := if 0 ≤ gI st 0 27 then (fX12_readText_86 n st v1) else (if gI st 0 25 ≤ gI st 0 26 then (fX12_readText_86 n st v1) else (bnd (fX12_wrong st) (fun r23 => fX12_readText_86 n r23 v1)))
set_option maxHeartbeats 4000000 in
theorem tX12_readText_64 {p : Program} {l : Launch} {e : Env} {s : State} {m : MethodId} {args : Array Value} {below : List Frame} {meth : Method} {c : Code} {X : WX} (C : Amb 43 X p s m args meth c cX12_readText 3 RX12) (hr : meth.sig.returnType = some .int) {R : Int32 × St} {n : Nat} : ∀ (st : St) (v1 : Int32) (H : Heap) (locs : List Loc) (ls : Array Slot), Wd EM 43 X s.heap st H locs → lv_has ls 3 [(0, .ref (xq X 0)), (1, .int v1)] → fX12_readText_64 n st v1 = some R → W p l e { frames := 65, cells := 0, slots := 0, locals := 1373 } s m args below meth c H locs 0 0 (QI EM 43 X R.1 R.2 below args s) (F0 m 64 ls []) := by
  obtain ⟨hx, hb, hml, hown, hts⟩ := id C.1
  intro st v1 H locs ls  hw hl hf
  unfold fX12_readText_64 at hf
  refine lv_aload_n hx hb dX12_readText_64 rfl (lv_at hl 0 rfl) ?_
  refine w_get (T := TX12) C hw (by decide) 27 kf_X12_220 (EM_0 X _ _) rfl inA12 (by decide) rfl dX12_readText_65 ?_
  refine lv_if_ge (tgt := 86) hx hb dX12_readText_68 (by decide) (fun c21 => ?_) (fun c21 => ?_)
  · replace hf := ite_t hf c21
    exact tX12_readText_86 C hr st v1 _ _ _ hw (lv_sub hl [0, 1] rfl) hf
  · replace hf := ite_f hf c21
    refine lv_aload_n hx hb dX12_readText_71 rfl (lv_at hl 0 rfl) ?_
    refine w_get (T := TX12) C hw (by decide) 26 kf_X12_217 (EM_0 X _ _) rfl inA12 (by decide) rfl dX12_readText_72 ?_
    refine lv_aload_n hx hb dX12_readText_75 rfl (lv_at hl 0 rfl) ?_
    refine w_get (T := TX12) C hw (by decide) 25 kf_X12_214 (EM_0 X _ _) rfl inA12 (by decide) rfl dX12_readText_76 ?_
    refine lv_icmp_ge (tgt := 86) hx hb dX12_readText_79 (by decide) (fun c22 => ?_) (fun c22 => ?_)
    · replace hf := ite_t hf c22
      exact tX12_readText_86 C hr st v1 _ _ _ hw (lv_sub hl [0, 1] rfl) hf
    · replace hf := ite_f hf c22
      refine lv_aload_n hx hb dX12_readText_82 rfl (lv_at hl 0 rfl) ?_
      obtain ⟨r23, k24⟩ : ∃ z : St, z = fX12_wrong st := ⟨_, rfl⟩
      replace hf := bnd_nm hf k24
      refine w_goV hw (w_runV (rest := []) C hw (zX12_wrong _ _ st r23 k24.symm) (by decide) (EM_0 X _ _) rfl km_X12_229 ki_yX12_wrong kv_X12_wrong kz_X12 kc_X12_wrong rfl ok_yX12_wrong ⟨Nat.le_of_ble_eq_true rfl, Nat.le_of_ble_eq_true rfl⟩ rfl rfl rfl rfl hl.1 (Nat.le_of_ble_eq_true rfl) dX12_readText_83 ⟨Nat.zero_le _, Nat.zero_le _⟩) (fun H locs hw => ?_)
      exact tX12_readText_86 C hr r23 v1 _ _ _ hw (lv_sub hl [0, 1] rfl) hf
def fX12_readText_31 (n : Nat) : Nat → St → Int32 → Option (Int32 × St)
  | 0, _, _ => none
  | k + 1, st, v1 => if 0 ≤ gI st 0 27 then (fX12_readText_64 n st v1) else ((fX12_look st).bind (fun r14 => if r14 = (59 : Int32) then (bnd (sI st 0 26 ((gI st 0 26) + (1 : Int32))) (fun st17 => (fX12_line n st17).bind (fun r19 => fX12_readText_31 n k r19 v1))) else (fX12_readText_64 n st v1)))
set_option maxHeartbeats 4000000 in
theorem tX12_readText_31 {p : Program} {l : Launch} {e : Env} {s : State} {m : MethodId} {args : Array Value} {below : List Frame} {meth : Method} {c : Code} {X : WX} (C : Amb 43 X p s m args meth c cX12_readText 3 RX12) (hr : meth.sig.returnType = some .int) {R : Int32 × St} {n : Nat} : ∀ (k : Nat) (st : St) (v1 : Int32) (H : Heap) (locs : List Loc) (ls : Array Slot), Wd EM 43 X s.heap st H locs → lv_has ls 3 [(0, .ref (xq X 0)), (1, .int v1)] → fX12_readText_31 n k st v1 = some R → W p l e { frames := 65, cells := 0, slots := 0, locals := 1373 } s m args below meth c H locs 0 0 (QI EM 43 X R.1 R.2 below args s) (F0 m 31 ls []) := by
  obtain ⟨hx, hb, hml, hown, hts⟩ := id C.1
  intro k
  induction k with
  | zero => intro st v1 H locs ls  hw hl hf; exact absurd (show none = some R from hf) (fun z => by cases z)
  | succ k ih =>
    intro st v1 H locs ls  hw hl hf
    rw [fX12_readText_31] at hf
    refine lv_aload_n hx hb dX12_readText_31 rfl (lv_at hl 0 rfl) ?_
    refine w_get (T := TX12) C hw (by decide) 27 kf_X12_220 (EM_0 X _ _) rfl inA12 (by decide) rfl dX12_readText_32 ?_
    refine lv_if_ge (tgt := 64) hx hb dX12_readText_35 (by decide) (fun c13 => ?_) (fun c13 => ?_)
    · replace hf := ite_t hf c13
      exact tX12_readText_64 C hr st v1 _ _ _ hw (lv_sub hl [0, 1] rfl) hf
    · replace hf := ite_f hf c13
      refine lv_aload_n hx hb dX12_readText_38 rfl (lv_at hl 0 rfl) ?_
      obtain ⟨r14, k15, hf⟩ := bd_some hf
      refine w_goI hw (w_runV (rest := []) C hw (zX12_look _ _ st r14 k15) (by decide) (EM_0 X _ _) rfl km_X12_232 ki_yX12_look kv_X12_look kz_X12 kc_X12_look rfl ok_yX12_look ⟨Nat.le_of_ble_eq_true rfl, Nat.le_of_ble_eq_true rfl⟩ rfl rfl rfl rfl hl.1 (Nat.le_of_ble_eq_true rfl) dX12_readText_39 ⟨Nat.zero_le _, Nat.zero_le _⟩) (fun H locs hw => ?_)
      refine lv_bipush (v := 59) hx hb dX12_readText_42 (by decide) ?_
      refine lv_icmp_ne (tgt := 64) hx hb dX12_readText_44 (by decide) (fun c16 => ?_) (fun c16 => ?_)
      · replace hf := ite_f hf c16
        exact tX12_readText_64 C hr st v1 _ _ _ hw (lv_sub hl [0, 1] rfl) hf
      · replace hf := ite_t hf c16
        refine lv_aload_n hx hb dX12_readText_47 rfl (lv_at hl 0 rfl) ?_
        refine lv_dup hx hb dX12_readText_48 rfl ?_
        refine w_get (T := TX12) C hw (by decide) 26 kf_X12_217 (EM_0 X _ _) rfl inA12 (by decide) rfl dX12_readText_49 ?_
        refine lv_iconst (v := 1) hx hb dX12_readText_52 (by decide) ?_
        refine lv_iadd hx hb dX12_readText_53 ?_
        obtain ⟨st17, es18⟩ : ∃ z : St, z = sI st 0 26 ((gI st 0 26) + (1 : Int32)) := ⟨_, rfl⟩
        replace hf := bnd_nm hf es18
        refine w_puti (T := TX12) C hw (by decide) 26 kf_X12_217 (EM_0 X _ _) rfl inA12 tyX12_ok nmX12 (by decide) rfl rfl (Nat.le_of_ble_eq_true rfl) rfl dX12_readText_54 (fun H locs hw => ?_)
        rw [← es18] at hw
        refine lv_aload_n hx hb dX12_readText_57 rfl (lv_at hl 0 rfl) ?_
        obtain ⟨r19, k20, hf⟩ := bd_some hf
        refine w_goV hw (w_runV (rest := []) C hw (zX12_line _ _ n st17 r19 k20) (by decide) (EM_0 X _ _) rfl km_X12_269 ki_yX12_line kv_X12_line kz_X12 kc_X12_line rfl ok_yX12_line ⟨Nat.le_of_ble_eq_true rfl, Nat.le_of_ble_eq_true rfl⟩ rfl rfl rfl rfl hl.1 (Nat.le_of_ble_eq_true rfl) dX12_readText_58 ⟨Nat.zero_le _, Nat.zero_le _⟩) (fun H locs hw => ?_)
        refine lv_goto (tgt := 31) hx hb dX12_readText_61 (by decide) ?_
        exact ih r19 v1 _ _ _ hw (lv_sub hl [0, 1] rfl) hf
def fX12_readText (n : Nat) (st : St) (a1 : Int32) : Option (Int32 × St) := bnd (sI st 0 26 (0 : Int32)) (fun st1 => bnd (sI st1 0 27 (-1 : Int32)) (fun st3 => bnd (sI st3 0 28 (0 : Int32)) (fun st5 => bnd (sI st5 0 29 (0 : Int32)) (fun st7 => bnd (sI st7 22 1 (0 : Int32)) (fun st9 => (fX12_line n st9).bind (fun r11 => fX12_readText_31 n n r11 a1))))))
set_option maxHeartbeats 4000000 in
theorem zX12_readText (l : Launch) (X : WX) (n : Nat) (st : St) (a1 : Int32) (R : Int32 × St) (hf : fX12_readText n st a1 = some R) : CtI l yX12_readText cX12_readText 3 .int ({ frames := 65, cells := 0, slots := 0, locals := 1373 }) EM 43 X [.ref (xq X 0), .int a1] st R.1 R.2 := by
  refine ct_in (own := RX12) (by decide +kernel) rfl (Nat.le_of_ble_eq_true rfl) (fun p e s m below meth c C hr hw ls hl => ?_)
  obtain ⟨hx, hb, hml, hown, hts⟩ := id C.1
  have hl : lv_has ls 3 [(0, .ref (xq X 0)), (1, .int a1)] := hl
  unfold fX12_readText at hf
  refine lv_aload_n hx hb dX12_readText_0 rfl (lv_at hl 0 rfl) ?_
  refine lv_iconst (v := 0) hx hb dX12_readText_1 (by decide) ?_
  obtain ⟨st1, es2⟩ : ∃ z : St, z = sI st 0 26 (0 : Int32) := ⟨_, rfl⟩
  replace hf := bnd_nm hf es2
  refine w_puti (T := TX12) C hw (by decide) 26 kf_X12_217 (EM_0 X _ _) rfl inA12 tyX12_ok nmX12 (by decide) rfl rfl (Nat.le_of_ble_eq_true rfl) rfl dX12_readText_2 (fun H locs hw => ?_)
  rw [← es2] at hw
  refine lv_aload_n hx hb dX12_readText_5 rfl (lv_at hl 0 rfl) ?_
  refine lv_iconst (v := -1) hx hb dX12_readText_6 (by decide) ?_
  obtain ⟨st3, es4⟩ : ∃ z : St, z = sI st1 0 27 (-1 : Int32) := ⟨_, rfl⟩
  replace hf := bnd_nm hf es4
  refine w_puti (T := TX12) C hw (by decide) 27 kf_X12_220 (EM_0 X _ _) rfl inA12 tyX12_ok nmX12 (by decide) rfl rfl (Nat.le_of_ble_eq_true rfl) rfl dX12_readText_7 (fun H locs hw => ?_)
  rw [← es4] at hw
  refine lv_aload_n hx hb dX12_readText_10 rfl (lv_at hl 0 rfl) ?_
  refine lv_iconst (v := 0) hx hb dX12_readText_11 (by decide) ?_
  obtain ⟨st5, es6⟩ : ∃ z : St, z = sI st3 0 28 (0 : Int32) := ⟨_, rfl⟩
  replace hf := bnd_nm hf es6
  refine w_puti (T := TX12) C hw (by decide) 28 kf_X12_226 (EM_0 X _ _) rfl inA12 tyX12_ok nmX12 (by decide) rfl rfl (Nat.le_of_ble_eq_true rfl) rfl dX12_readText_12 (fun H locs hw => ?_)
  rw [← es6] at hw
  refine lv_aload_n hx hb dX12_readText_15 rfl (lv_at hl 0 rfl) ?_
  refine lv_iconst (v := 0) hx hb dX12_readText_16 (by decide) ?_
  obtain ⟨st7, es8⟩ : ∃ z : St, z = sI st5 0 29 (0 : Int32) := ⟨_, rfl⟩
  replace hf := bnd_nm hf es8
  refine w_puti (T := TX12) C hw (by decide) 29 kf_X12_223 (EM_0 X _ _) rfl inA12 tyX12_ok nmX12 (by decide) rfl rfl (Nat.le_of_ble_eq_true rfl) rfl dX12_readText_17 (fun H locs hw => ?_)
  rw [← es8] at hw
  refine lv_aload_n hx hb dX12_readText_20 rfl (lv_at hl 0 rfl) ?_
  refine w_get (T := TX12) C hw (by decide) 32 kf_X12_74 (EM_0 X _ _) rfl inA12 (by decide) rfl dX12_readText_21 ?_
  refine lv_iconst (v := 1) hx hb dX12_readText_24 (by decide) ?_
  refine lv_iconst (v := 0) hx hb dX12_readText_25 (by decide) ?_
  obtain ⟨st9, es10⟩ : ∃ z : St, z = sI st7 22 1 (0 : Int32) := ⟨_, rfl⟩
  replace hf := bnd_nm hf es10
  refine w_iast C hw (by decide) (fun f9 => EM_22 X f9 _) (by decide) (show (1 : Int32).toNatClampNeg = 1 by decide) dX12_readText_26 (fun H locs hw => ?_)
  rw [← es10] at hw
  refine lv_aload_n hx hb dX12_readText_27 rfl (lv_at hl 0 rfl) ?_
  obtain ⟨r11, k12, hf⟩ := bd_some hf
  refine w_goV hw (w_runV (rest := []) C hw (zX12_line _ _ n st9 r11 k12) (by decide) (EM_0 X _ _) rfl km_X12_269 ki_yX12_line kv_X12_line kz_X12 kc_X12_line rfl ok_yX12_line ⟨Nat.le_of_ble_eq_true rfl, Nat.le_of_ble_eq_true rfl⟩ rfl rfl rfl rfl hl.1 (Nat.le_of_ble_eq_true rfl) dX12_readText_28 ⟨Nat.zero_le _, Nat.zero_le _⟩) (fun H locs hw => ?_)
  exact tX12_readText_31 C hr n r11 a1 _ _ _ hw (lv_sub hl [0, 1] rfl) hf
theorem dX12_twoOf_0 : decode cX12_twoOf 0 = .ok (.iload_n 0, 1) := by decide +kernel
theorem dX12_twoOf_1 : decode cX12_twoOf 1 = .ok (.tableswitch 217 37 62 #[153, 203, 217, 217, 217, 127, 119, 217, 123, 217, 131, 217, 217, 217, 217, 217, 217, 217, 217, 217, 217, 217, 217, 170, 181, 192], 119) := by decide +kernel
theorem dX12_twoOf_120 : decode cX12_twoOf 120 = .ok (.iload_n 1, 1) := by decide +kernel
theorem dX12_twoOf_121 : decode cX12_twoOf 121 = .ok (.iload_n 2, 1) := by decide +kernel
theorem dX12_twoOf_122 : decode cX12_twoOf 122 = .ok (.iadd, 1) := by decide +kernel
theorem dX12_twoOf_123 : decode cX12_twoOf 123 = .ok (.ireturn, 1) := by decide +kernel
theorem dX12_twoOf_124 : decode cX12_twoOf 124 = .ok (.iload_n 1, 1) := by decide +kernel
theorem dX12_twoOf_125 : decode cX12_twoOf 125 = .ok (.iload_n 2, 1) := by decide +kernel
theorem dX12_twoOf_126 : decode cX12_twoOf 126 = .ok (.isub, 1) := by decide +kernel
theorem dX12_twoOf_127 : decode cX12_twoOf 127 = .ok (.ireturn, 1) := by decide +kernel
theorem dX12_twoOf_128 : decode cX12_twoOf 128 = .ok (.iload_n 1, 1) := by decide +kernel
theorem dX12_twoOf_129 : decode cX12_twoOf 129 = .ok (.iload_n 2, 1) := by decide +kernel
theorem dX12_twoOf_130 : decode cX12_twoOf 130 = .ok (.imul, 1) := by decide +kernel
theorem dX12_twoOf_131 : decode cX12_twoOf 131 = .ok (.ireturn, 1) := by decide +kernel
theorem dX12_twoOf_132 : decode cX12_twoOf 132 = .ok (.iload_n 2, 1) := by decide +kernel
theorem dX12_twoOf_133 : decode cX12_twoOf 133 = .ok (.ifCond .ne 7, 3) := by decide +kernel
theorem dX12_twoOf_136 : decode cX12_twoOf 136 = .ok (.iconst 0, 1) := by decide +kernel
theorem dX12_twoOf_137 : decode cX12_twoOf 137 = .ok (.goto 16, 3) := by decide +kernel
theorem dX12_twoOf_140 : decode cX12_twoOf 140 = .ok (.iload_n 2, 1) := by decide +kernel
theorem dX12_twoOf_141 : decode cX12_twoOf 141 = .ok (.iconst (-1), 1) := by decide +kernel
theorem dX12_twoOf_142 : decode cX12_twoOf 142 = .ok (.if_icmp .ne 8, 3) := by decide +kernel
theorem dX12_twoOf_145 : decode cX12_twoOf 145 = .ok (.iload_n 1, 1) := by decide +kernel
theorem dX12_twoOf_146 : decode cX12_twoOf 146 = .ok (.ineg, 1) := by decide +kernel
theorem dX12_twoOf_147 : decode cX12_twoOf 147 = .ok (.goto 6, 3) := by decide +kernel
theorem dX12_twoOf_150 : decode cX12_twoOf 150 = .ok (.iload_n 1, 1) := by decide +kernel
theorem dX12_twoOf_151 : decode cX12_twoOf 151 = .ok (.iload_n 2, 1) := by decide +kernel
theorem dX12_twoOf_152 : decode cX12_twoOf 152 = .ok (.idiv, 1) := by decide +kernel
theorem dX12_twoOf_153 : decode cX12_twoOf 153 = .ok (.ireturn, 1) := by decide +kernel
theorem dX12_twoOf_154 : decode cX12_twoOf 154 = .ok (.iload_n 2, 1) := by decide +kernel
theorem dX12_twoOf_155 : decode cX12_twoOf 155 = .ok (.ifCond .eq 8, 3) := by decide +kernel
theorem dX12_twoOf_158 : decode cX12_twoOf 158 = .ok (.iload_n 2, 1) := by decide +kernel
theorem dX12_twoOf_159 : decode cX12_twoOf 159 = .ok (.iconst (-1), 1) := by decide +kernel
theorem dX12_twoOf_160 : decode cX12_twoOf 160 = .ok (.if_icmp .ne 7, 3) := by decide +kernel
theorem dX12_twoOf_163 : decode cX12_twoOf 163 = .ok (.iconst 0, 1) := by decide +kernel
theorem dX12_twoOf_164 : decode cX12_twoOf 164 = .ok (.goto 6, 3) := by decide +kernel
theorem dX12_twoOf_167 : decode cX12_twoOf 167 = .ok (.iload_n 1, 1) := by decide +kernel
theorem dX12_twoOf_168 : decode cX12_twoOf 168 = .ok (.iload_n 2, 1) := by decide +kernel
theorem dX12_twoOf_169 : decode cX12_twoOf 169 = .ok (.irem, 1) := by decide +kernel
theorem dX12_twoOf_170 : decode cX12_twoOf 170 = .ok (.ireturn, 1) := by decide +kernel
theorem dX12_twoOf_171 : decode cX12_twoOf 171 = .ok (.iload_n 1, 1) := by decide +kernel
theorem dX12_twoOf_172 : decode cX12_twoOf 172 = .ok (.iload_n 2, 1) := by decide +kernel
theorem dX12_twoOf_173 : decode cX12_twoOf 173 = .ok (.if_icmp .ge 7, 3) := by decide +kernel
theorem dX12_twoOf_176 : decode cX12_twoOf 176 = .ok (.iconst 1, 1) := by decide +kernel
theorem dX12_twoOf_177 : decode cX12_twoOf 177 = .ok (.goto 4, 3) := by decide +kernel
theorem dX12_twoOf_180 : decode cX12_twoOf 180 = .ok (.iconst 0, 1) := by decide +kernel
theorem dX12_twoOf_181 : decode cX12_twoOf 181 = .ok (.ireturn, 1) := by decide +kernel
theorem dX12_twoOf_182 : decode cX12_twoOf 182 = .ok (.iload_n 1, 1) := by decide +kernel
theorem dX12_twoOf_183 : decode cX12_twoOf 183 = .ok (.iload_n 2, 1) := by decide +kernel
theorem dX12_twoOf_184 : decode cX12_twoOf 184 = .ok (.if_icmp .ne 7, 3) := by decide +kernel
theorem dX12_twoOf_187 : decode cX12_twoOf 187 = .ok (.iconst 1, 1) := by decide +kernel
theorem dX12_twoOf_188 : decode cX12_twoOf 188 = .ok (.goto 4, 3) := by decide +kernel
theorem dX12_twoOf_191 : decode cX12_twoOf 191 = .ok (.iconst 0, 1) := by decide +kernel
theorem dX12_twoOf_192 : decode cX12_twoOf 192 = .ok (.ireturn, 1) := by decide +kernel
theorem dX12_twoOf_193 : decode cX12_twoOf 193 = .ok (.iload_n 1, 1) := by decide +kernel
theorem dX12_twoOf_194 : decode cX12_twoOf 194 = .ok (.iload_n 2, 1) := by decide +kernel
theorem dX12_twoOf_195 : decode cX12_twoOf 195 = .ok (.if_icmp .le 7, 3) := by decide +kernel
theorem dX12_twoOf_198 : decode cX12_twoOf 198 = .ok (.iconst 1, 1) := by decide +kernel
theorem dX12_twoOf_199 : decode cX12_twoOf 199 = .ok (.goto 4, 3) := by decide +kernel
theorem dX12_twoOf_202 : decode cX12_twoOf 202 = .ok (.iconst 0, 1) := by decide +kernel
theorem dX12_twoOf_203 : decode cX12_twoOf 203 = .ok (.ireturn, 1) := by decide +kernel
theorem dX12_twoOf_204 : decode cX12_twoOf 204 = .ok (.iload_n 1, 1) := by decide +kernel
theorem dX12_twoOf_205 : decode cX12_twoOf 205 = .ok (.ifCond .eq 11, 3) := by decide +kernel
theorem dX12_twoOf_208 : decode cX12_twoOf 208 = .ok (.iload_n 2, 1) := by decide +kernel
theorem dX12_twoOf_209 : decode cX12_twoOf 209 = .ok (.ifCond .eq 7, 3) := by decide +kernel
theorem dX12_twoOf_212 : decode cX12_twoOf 212 = .ok (.iconst 1, 1) := by decide +kernel
theorem dX12_twoOf_213 : decode cX12_twoOf 213 = .ok (.goto 4, 3) := by decide +kernel
theorem dX12_twoOf_216 : decode cX12_twoOf 216 = .ok (.iconst 0, 1) := by decide +kernel
theorem dX12_twoOf_217 : decode cX12_twoOf 217 = .ok (.ireturn, 1) := by decide +kernel
theorem dX12_twoOf_218 : decode cX12_twoOf 218 = .ok (.iload_n 1, 1) := by decide +kernel
theorem dX12_twoOf_219 : decode cX12_twoOf 219 = .ok (.ifCond .ne 7, 3) := by decide +kernel
theorem dX12_twoOf_222 : decode cX12_twoOf 222 = .ok (.iload_n 2, 1) := by decide +kernel
theorem dX12_twoOf_223 : decode cX12_twoOf 223 = .ok (.ifCond .eq 7, 3) := by decide +kernel
theorem dX12_twoOf_226 : decode cX12_twoOf 226 = .ok (.iconst 1, 1) := by decide +kernel
theorem dX12_twoOf_227 : decode cX12_twoOf 227 = .ok (.goto 4, 3) := by decide +kernel
theorem dX12_twoOf_230 : decode cX12_twoOf 230 = .ok (.iconst 0, 1) := by decide +kernel
theorem dX12_twoOf_231 : decode cX12_twoOf 231 = .ok (.ireturn, 1) := by decide +kernel
theorem ok_yX12_twoOf : yOk yX12_twoOf 3 := ⟨by decide +kernel, by decide +kernel, by decide +kernel⟩
def fX12_twoOf_218 (v1 : Int32) (v2 : Int32) : Int32 := if v1 = 0 then (if v2 = 0 then ((0 : Int32)) else ((1 : Int32))) else ((1 : Int32))
set_option maxHeartbeats 4000000 in
theorem tX12_twoOf_218 {p : Program} {l : Launch} {e : Env} {s : State} {m : MethodId} {args : Array Value} {below : List Frame} {meth : Method} {c : Code} {X : WX} (C : Amb 43 X p s m args meth c cX12_twoOf 3 RX12) (hr : meth.sig.returnType = some .int) {R : Int32} {st : St} : ∀ (v1 : Int32) (v2 : Int32) (H : Heap) (locs : List Loc) (ls : Array Slot), Wd EM 43 X s.heap st H locs → lv_has ls 3 [(1, .int v1), (2, .int v2)] → fX12_twoOf_218 v1 v2 = R → W p l e { frames := 0, cells := 0, slots := 0, locals := 0 } s m args below meth c H locs 0 0 (QI EM 43 X R st below args s) (F0 m 218 ls []) := by
  obtain ⟨hx, hb, hml, hown, hts⟩ := id C.1
  intro v1 v2 H locs ls  hw hl hf
  unfold fX12_twoOf_218 at hf
  refine lv_iload_n hx hb dX12_twoOf_218 rfl (lv_at hl 0 rfl) ?_
  refine lv_if_ne (tgt := 226) hx hb dX12_twoOf_219 (by decide) (fun c36 => ?_) (fun c36 => ?_)
  · replace hf := ite_f hf c36
    refine lv_iconst (v := 1) hx hb dX12_twoOf_226 (by decide) ?_
    refine lv_goto (tgt := 231) hx hb dX12_twoOf_227 (by decide) ?_
    exact w_iret C hw hr hf rfl dX12_twoOf_231
  · replace hf := ite_t hf c36
    refine lv_iload_n hx hb dX12_twoOf_222 rfl (lv_at hl 1 rfl) ?_
    refine lv_if_eq (tgt := 230) hx hb dX12_twoOf_223 (by decide) (fun c37 => ?_) (fun c37 => ?_)
    · replace hf := ite_t hf c37
      refine lv_iconst (v := 0) hx hb dX12_twoOf_230 (by decide) ?_
      exact w_iret C hw hr hf rfl dX12_twoOf_231
    · replace hf := ite_f hf c37
      refine lv_iconst (v := 1) hx hb dX12_twoOf_226 (by decide) ?_
      refine lv_goto (tgt := 231) hx hb dX12_twoOf_227 (by decide) ?_
      exact w_iret C hw hr hf rfl dX12_twoOf_231
def fX12_twoOf (a0 : Int32) (a1 : Int32) (a2 : Int32) : Int32 := if a0 = 37 then (if a2 = 0 then ((0 : Int32)) else (if a2 = (-1 : Int32) then ((0 : Int32)) else ((rmI a1 a2)))) else (if a0 = 38 then (if a1 = 0 then ((0 : Int32)) else (if a2 = 0 then ((0 : Int32)) else ((1 : Int32)))) else (if a0 = 39 then (fX12_twoOf_218 a1 a2) else (if a0 = 40 then (fX12_twoOf_218 a1 a2) else (if a0 = 41 then (fX12_twoOf_218 a1 a2) else (if a0 = 42 then ((a1 * a2)) else (if a0 = 43 then ((a1 + a2)) else (if a0 = 44 then (fX12_twoOf_218 a1 a2) else (if a0 = 45 then ((a1 - a2)) else (if a0 = 46 then (fX12_twoOf_218 a1 a2) else (if a0 = 47 then (if a2 = 0 then ((0 : Int32)) else (if a2 = (-1 : Int32) then ((-a1)) else ((a1 / a2)))) else (if a0 = 48 then (fX12_twoOf_218 a1 a2) else (if a0 = 49 then (fX12_twoOf_218 a1 a2) else (if a0 = 50 then (fX12_twoOf_218 a1 a2) else (if a0 = 51 then (fX12_twoOf_218 a1 a2) else (if a0 = 52 then (fX12_twoOf_218 a1 a2) else (if a0 = 53 then (fX12_twoOf_218 a1 a2) else (if a0 = 54 then (fX12_twoOf_218 a1 a2) else (if a0 = 55 then (fX12_twoOf_218 a1 a2) else (if a0 = 56 then (fX12_twoOf_218 a1 a2) else (if a0 = 57 then (fX12_twoOf_218 a1 a2) else (if a0 = 58 then (fX12_twoOf_218 a1 a2) else (if a0 = 59 then (fX12_twoOf_218 a1 a2) else (if a0 = 60 then (if a2 ≤ a1 then ((0 : Int32)) else ((1 : Int32))) else (if a0 = 61 then (if a1 = a2 then ((1 : Int32)) else ((0 : Int32))) else (if a0 = 62 then (if a1 ≤ a2 then ((0 : Int32)) else ((1 : Int32))) else (fX12_twoOf_218 a1 a2))))))))))))))))))))))))))
set_option maxHeartbeats 4000000 in
theorem zX12_twoOf (l : Launch) (X : WX) (st : St) (a0 : Int32) (a1 : Int32) (a2 : Int32) : CtI l yX12_twoOf cX12_twoOf 3 .int ({ frames := 0, cells := 0, slots := 0, locals := 0 }) EM 43 X [.int a0, .int a1, .int a2] st (fX12_twoOf a0 a1 a2) st := by
  generalize hf : fX12_twoOf a0 a1 a2 = R
  refine ct_in (own := RX12) (by decide +kernel) rfl (Nat.le_of_ble_eq_true rfl) (fun p e s m below meth c C hr hw ls hl => ?_)
  obtain ⟨hx, hb, hml, hown, hts⟩ := id C.1
  have hl : lv_has ls 3 [(0, .int a0), (1, .int a1), (2, .int a2)] := hl
  unfold fX12_twoOf at hf
  refine lv_iload_n hx hb dX12_twoOf_0 rfl (lv_at hl 0 rfl) ?_
  by_cases c1 : a0 = 37
  · replace hf := ite_t hf c1
    refine lv_tableIn (tgt := 154) hx hb dX12_twoOf_1 (by rw [c1]; decide) (by rw [c1]; decide) (by rw [c1]; rfl) (by decide) ?_
    refine lv_iload_n hx hb dX12_twoOf_154 rfl (lv_at hl 2 rfl) ?_
    refine lv_if_eq (tgt := 163) hx hb dX12_twoOf_155 (by decide) (fun c2 => ?_) (fun c2 => ?_)
    · replace hf := ite_t hf c2
      refine lv_iconst (v := 0) hx hb dX12_twoOf_163 (by decide) ?_
      refine lv_goto (tgt := 170) hx hb dX12_twoOf_164 (by decide) ?_
      exact w_iret C hw hr hf rfl dX12_twoOf_170
    · replace hf := ite_f hf c2
      refine lv_iload_n hx hb dX12_twoOf_158 rfl (lv_at hl 2 rfl) ?_
      refine lv_iconst (v := -1) hx hb dX12_twoOf_159 (by decide) ?_
      refine lv_icmp_ne (tgt := 167) hx hb dX12_twoOf_160 (by decide) (fun c3 => ?_) (fun c3 => ?_)
      · replace hf := ite_f hf c3
        refine lv_iload_n hx hb dX12_twoOf_167 rfl (lv_at hl 1 rfl) ?_
        refine lv_iload_n hx hb dX12_twoOf_168 rfl (lv_at hl 2 rfl) ?_
        refine w_irem C c2 dX12_twoOf_169 ?_
        exact w_iret C hw hr hf rfl dX12_twoOf_170
      · replace hf := ite_t hf c3
        refine lv_iconst (v := 0) hx hb dX12_twoOf_163 (by decide) ?_
        refine lv_goto (tgt := 170) hx hb dX12_twoOf_164 (by decide) ?_
        exact w_iret C hw hr hf rfl dX12_twoOf_170
  · replace hf := ite_f hf c1
    by_cases c4 : a0 = 38
    · replace hf := ite_t hf c4
      refine lv_tableIn (tgt := 204) hx hb dX12_twoOf_1 (by rw [c4]; decide) (by rw [c4]; decide) (by rw [c4]; rfl) (by decide) ?_
      refine lv_iload_n hx hb dX12_twoOf_204 rfl (lv_at hl 1 rfl) ?_
      refine lv_if_eq (tgt := 216) hx hb dX12_twoOf_205 (by decide) (fun c5 => ?_) (fun c5 => ?_)
      · replace hf := ite_t hf c5
        refine lv_iconst (v := 0) hx hb dX12_twoOf_216 (by decide) ?_
        exact w_iret C hw hr hf rfl dX12_twoOf_217
      · replace hf := ite_f hf c5
        refine lv_iload_n hx hb dX12_twoOf_208 rfl (lv_at hl 2 rfl) ?_
        refine lv_if_eq (tgt := 216) hx hb dX12_twoOf_209 (by decide) (fun c6 => ?_) (fun c6 => ?_)
        · replace hf := ite_t hf c6
          refine lv_iconst (v := 0) hx hb dX12_twoOf_216 (by decide) ?_
          exact w_iret C hw hr hf rfl dX12_twoOf_217
        · replace hf := ite_f hf c6
          refine lv_iconst (v := 1) hx hb dX12_twoOf_212 (by decide) ?_
          refine lv_goto (tgt := 217) hx hb dX12_twoOf_213 (by decide) ?_
          exact w_iret C hw hr hf rfl dX12_twoOf_217
    · replace hf := ite_f hf c4
      by_cases c7 : a0 = 39
      · replace hf := ite_t hf c7
        refine lv_tableIn (tgt := 218) hx hb dX12_twoOf_1 (by rw [c7]; decide) (by rw [c7]; decide) (by rw [c7]; rfl) (by decide) ?_
        exact tX12_twoOf_218 C hr a1 a2 _ _ _ hw (lv_sub hl [1, 2] rfl) hf
      · replace hf := ite_f hf c7
        by_cases c8 : a0 = 40
        · replace hf := ite_t hf c8
          refine lv_tableIn (tgt := 218) hx hb dX12_twoOf_1 (by rw [c8]; decide) (by rw [c8]; decide) (by rw [c8]; rfl) (by decide) ?_
          exact tX12_twoOf_218 C hr a1 a2 _ _ _ hw (lv_sub hl [1, 2] rfl) hf
        · replace hf := ite_f hf c8
          by_cases c9 : a0 = 41
          · replace hf := ite_t hf c9
            refine lv_tableIn (tgt := 218) hx hb dX12_twoOf_1 (by rw [c9]; decide) (by rw [c9]; decide) (by rw [c9]; rfl) (by decide) ?_
            exact tX12_twoOf_218 C hr a1 a2 _ _ _ hw (lv_sub hl [1, 2] rfl) hf
          · replace hf := ite_f hf c9
            by_cases c10 : a0 = 42
            · replace hf := ite_t hf c10
              refine lv_tableIn (tgt := 128) hx hb dX12_twoOf_1 (by rw [c10]; decide) (by rw [c10]; decide) (by rw [c10]; rfl) (by decide) ?_
              refine lv_iload_n hx hb dX12_twoOf_128 rfl (lv_at hl 1 rfl) ?_
              refine lv_iload_n hx hb dX12_twoOf_129 rfl (lv_at hl 2 rfl) ?_
              refine lv_imul hx hb dX12_twoOf_130 ?_
              exact w_iret C hw hr hf rfl dX12_twoOf_131
            · replace hf := ite_f hf c10
              by_cases c11 : a0 = 43
              · replace hf := ite_t hf c11
                refine lv_tableIn (tgt := 120) hx hb dX12_twoOf_1 (by rw [c11]; decide) (by rw [c11]; decide) (by rw [c11]; rfl) (by decide) ?_
                refine lv_iload_n hx hb dX12_twoOf_120 rfl (lv_at hl 1 rfl) ?_
                refine lv_iload_n hx hb dX12_twoOf_121 rfl (lv_at hl 2 rfl) ?_
                refine lv_iadd hx hb dX12_twoOf_122 ?_
                exact w_iret C hw hr hf rfl dX12_twoOf_123
              · replace hf := ite_f hf c11
                by_cases c12 : a0 = 44
                · replace hf := ite_t hf c12
                  refine lv_tableIn (tgt := 218) hx hb dX12_twoOf_1 (by rw [c12]; decide) (by rw [c12]; decide) (by rw [c12]; rfl) (by decide) ?_
                  exact tX12_twoOf_218 C hr a1 a2 _ _ _ hw (lv_sub hl [1, 2] rfl) hf
                · replace hf := ite_f hf c12
                  by_cases c13 : a0 = 45
                  · replace hf := ite_t hf c13
                    refine lv_tableIn (tgt := 124) hx hb dX12_twoOf_1 (by rw [c13]; decide) (by rw [c13]; decide) (by rw [c13]; rfl) (by decide) ?_
                    refine lv_iload_n hx hb dX12_twoOf_124 rfl (lv_at hl 1 rfl) ?_
                    refine lv_iload_n hx hb dX12_twoOf_125 rfl (lv_at hl 2 rfl) ?_
                    refine lv_isub hx hb dX12_twoOf_126 ?_
                    exact w_iret C hw hr hf rfl dX12_twoOf_127
                  · replace hf := ite_f hf c13
                    by_cases c14 : a0 = 46
                    · replace hf := ite_t hf c14
                      refine lv_tableIn (tgt := 218) hx hb dX12_twoOf_1 (by rw [c14]; decide) (by rw [c14]; decide) (by rw [c14]; rfl) (by decide) ?_
                      exact tX12_twoOf_218 C hr a1 a2 _ _ _ hw (lv_sub hl [1, 2] rfl) hf
                    · replace hf := ite_f hf c14
                      by_cases c15 : a0 = 47
                      · replace hf := ite_t hf c15
                        refine lv_tableIn (tgt := 132) hx hb dX12_twoOf_1 (by rw [c15]; decide) (by rw [c15]; decide) (by rw [c15]; rfl) (by decide) ?_
                        refine lv_iload_n hx hb dX12_twoOf_132 rfl (lv_at hl 2 rfl) ?_
                        refine lv_if_ne (tgt := 140) hx hb dX12_twoOf_133 (by decide) (fun c16 => ?_) (fun c16 => ?_)
                        · replace hf := ite_f hf c16
                          refine lv_iload_n hx hb dX12_twoOf_140 rfl (lv_at hl 2 rfl) ?_
                          refine lv_iconst (v := -1) hx hb dX12_twoOf_141 (by decide) ?_
                          refine lv_icmp_ne (tgt := 150) hx hb dX12_twoOf_142 (by decide) (fun c17 => ?_) (fun c17 => ?_)
                          · replace hf := ite_f hf c17
                            refine lv_iload_n hx hb dX12_twoOf_150 rfl (lv_at hl 1 rfl) ?_
                            refine lv_iload_n hx hb dX12_twoOf_151 rfl (lv_at hl 2 rfl) ?_
                            refine lv_idiv hx hb dX12_twoOf_152 c16 ?_
                            exact w_iret C hw hr hf rfl dX12_twoOf_153
                          · replace hf := ite_t hf c17
                            refine lv_iload_n hx hb dX12_twoOf_145 rfl (lv_at hl 1 rfl) ?_
                            refine lv_ineg hx hb dX12_twoOf_146 ?_
                            refine lv_goto (tgt := 153) hx hb dX12_twoOf_147 (by decide) ?_
                            exact w_iret C hw hr hf rfl dX12_twoOf_153
                        · replace hf := ite_t hf c16
                          refine lv_iconst (v := 0) hx hb dX12_twoOf_136 (by decide) ?_
                          refine lv_goto (tgt := 153) hx hb dX12_twoOf_137 (by decide) ?_
                          exact w_iret C hw hr hf rfl dX12_twoOf_153
                      · replace hf := ite_f hf c15
                        by_cases c18 : a0 = 48
                        · replace hf := ite_t hf c18
                          refine lv_tableIn (tgt := 218) hx hb dX12_twoOf_1 (by rw [c18]; decide) (by rw [c18]; decide) (by rw [c18]; rfl) (by decide) ?_
                          exact tX12_twoOf_218 C hr a1 a2 _ _ _ hw (lv_sub hl [1, 2] rfl) hf
                        · replace hf := ite_f hf c18
                          by_cases c19 : a0 = 49
                          · replace hf := ite_t hf c19
                            refine lv_tableIn (tgt := 218) hx hb dX12_twoOf_1 (by rw [c19]; decide) (by rw [c19]; decide) (by rw [c19]; rfl) (by decide) ?_
                            exact tX12_twoOf_218 C hr a1 a2 _ _ _ hw (lv_sub hl [1, 2] rfl) hf
                          · replace hf := ite_f hf c19
                            by_cases c20 : a0 = 50
                            · replace hf := ite_t hf c20
                              refine lv_tableIn (tgt := 218) hx hb dX12_twoOf_1 (by rw [c20]; decide) (by rw [c20]; decide) (by rw [c20]; rfl) (by decide) ?_
                              exact tX12_twoOf_218 C hr a1 a2 _ _ _ hw (lv_sub hl [1, 2] rfl) hf
                            · replace hf := ite_f hf c20
                              by_cases c21 : a0 = 51
                              · replace hf := ite_t hf c21
                                refine lv_tableIn (tgt := 218) hx hb dX12_twoOf_1 (by rw [c21]; decide) (by rw [c21]; decide) (by rw [c21]; rfl) (by decide) ?_
                                exact tX12_twoOf_218 C hr a1 a2 _ _ _ hw (lv_sub hl [1, 2] rfl) hf
                              · replace hf := ite_f hf c21
                                by_cases c22 : a0 = 52
                                · replace hf := ite_t hf c22
                                  refine lv_tableIn (tgt := 218) hx hb dX12_twoOf_1 (by rw [c22]; decide) (by rw [c22]; decide) (by rw [c22]; rfl) (by decide) ?_
                                  exact tX12_twoOf_218 C hr a1 a2 _ _ _ hw (lv_sub hl [1, 2] rfl) hf
                                · replace hf := ite_f hf c22
                                  by_cases c23 : a0 = 53
                                  · replace hf := ite_t hf c23
                                    refine lv_tableIn (tgt := 218) hx hb dX12_twoOf_1 (by rw [c23]; decide) (by rw [c23]; decide) (by rw [c23]; rfl) (by decide) ?_
                                    exact tX12_twoOf_218 C hr a1 a2 _ _ _ hw (lv_sub hl [1, 2] rfl) hf
                                  · replace hf := ite_f hf c23
                                    by_cases c24 : a0 = 54
                                    · replace hf := ite_t hf c24
                                      refine lv_tableIn (tgt := 218) hx hb dX12_twoOf_1 (by rw [c24]; decide) (by rw [c24]; decide) (by rw [c24]; rfl) (by decide) ?_
                                      exact tX12_twoOf_218 C hr a1 a2 _ _ _ hw (lv_sub hl [1, 2] rfl) hf
                                    · replace hf := ite_f hf c24
                                      by_cases c25 : a0 = 55
                                      · replace hf := ite_t hf c25
                                        refine lv_tableIn (tgt := 218) hx hb dX12_twoOf_1 (by rw [c25]; decide) (by rw [c25]; decide) (by rw [c25]; rfl) (by decide) ?_
                                        exact tX12_twoOf_218 C hr a1 a2 _ _ _ hw (lv_sub hl [1, 2] rfl) hf
                                      · replace hf := ite_f hf c25
                                        by_cases c26 : a0 = 56
                                        · replace hf := ite_t hf c26
                                          refine lv_tableIn (tgt := 218) hx hb dX12_twoOf_1 (by rw [c26]; decide) (by rw [c26]; decide) (by rw [c26]; rfl) (by decide) ?_
                                          exact tX12_twoOf_218 C hr a1 a2 _ _ _ hw (lv_sub hl [1, 2] rfl) hf
                                        · replace hf := ite_f hf c26
                                          by_cases c27 : a0 = 57
                                          · replace hf := ite_t hf c27
                                            refine lv_tableIn (tgt := 218) hx hb dX12_twoOf_1 (by rw [c27]; decide) (by rw [c27]; decide) (by rw [c27]; rfl) (by decide) ?_
                                            exact tX12_twoOf_218 C hr a1 a2 _ _ _ hw (lv_sub hl [1, 2] rfl) hf
                                          · replace hf := ite_f hf c27
                                            by_cases c28 : a0 = 58
                                            · replace hf := ite_t hf c28
                                              refine lv_tableIn (tgt := 218) hx hb dX12_twoOf_1 (by rw [c28]; decide) (by rw [c28]; decide) (by rw [c28]; rfl) (by decide) ?_
                                              exact tX12_twoOf_218 C hr a1 a2 _ _ _ hw (lv_sub hl [1, 2] rfl) hf
                                            · replace hf := ite_f hf c28
                                              by_cases c29 : a0 = 59
                                              · replace hf := ite_t hf c29
                                                refine lv_tableIn (tgt := 218) hx hb dX12_twoOf_1 (by rw [c29]; decide) (by rw [c29]; decide) (by rw [c29]; rfl) (by decide) ?_
                                                exact tX12_twoOf_218 C hr a1 a2 _ _ _ hw (lv_sub hl [1, 2] rfl) hf
                                              · replace hf := ite_f hf c29
                                                by_cases c30 : a0 = 60
                                                · replace hf := ite_t hf c30
                                                  refine lv_tableIn (tgt := 171) hx hb dX12_twoOf_1 (by rw [c30]; decide) (by rw [c30]; decide) (by rw [c30]; rfl) (by decide) ?_
                                                  refine lv_iload_n hx hb dX12_twoOf_171 rfl (lv_at hl 1 rfl) ?_
                                                  refine lv_iload_n hx hb dX12_twoOf_172 rfl (lv_at hl 2 rfl) ?_
                                                  refine lv_icmp_ge (tgt := 180) hx hb dX12_twoOf_173 (by decide) (fun c31 => ?_) (fun c31 => ?_)
                                                  · replace hf := ite_t hf c31
                                                    refine lv_iconst (v := 0) hx hb dX12_twoOf_180 (by decide) ?_
                                                    exact w_iret C hw hr hf rfl dX12_twoOf_181
                                                  · replace hf := ite_f hf c31
                                                    refine lv_iconst (v := 1) hx hb dX12_twoOf_176 (by decide) ?_
                                                    refine lv_goto (tgt := 181) hx hb dX12_twoOf_177 (by decide) ?_
                                                    exact w_iret C hw hr hf rfl dX12_twoOf_181
                                                · replace hf := ite_f hf c30
                                                  by_cases c32 : a0 = 61
                                                  · replace hf := ite_t hf c32
                                                    refine lv_tableIn (tgt := 182) hx hb dX12_twoOf_1 (by rw [c32]; decide) (by rw [c32]; decide) (by rw [c32]; rfl) (by decide) ?_
                                                    refine lv_iload_n hx hb dX12_twoOf_182 rfl (lv_at hl 1 rfl) ?_
                                                    refine lv_iload_n hx hb dX12_twoOf_183 rfl (lv_at hl 2 rfl) ?_
                                                    refine lv_icmp_ne (tgt := 191) hx hb dX12_twoOf_184 (by decide) (fun c33 => ?_) (fun c33 => ?_)
                                                    · replace hf := ite_f hf c33
                                                      refine lv_iconst (v := 0) hx hb dX12_twoOf_191 (by decide) ?_
                                                      exact w_iret C hw hr hf rfl dX12_twoOf_192
                                                    · replace hf := ite_t hf c33
                                                      refine lv_iconst (v := 1) hx hb dX12_twoOf_187 (by decide) ?_
                                                      refine lv_goto (tgt := 192) hx hb dX12_twoOf_188 (by decide) ?_
                                                      exact w_iret C hw hr hf rfl dX12_twoOf_192
                                                  · replace hf := ite_f hf c32
                                                    by_cases c34 : a0 = 62
                                                    · replace hf := ite_t hf c34
                                                      refine lv_tableIn (tgt := 193) hx hb dX12_twoOf_1 (by rw [c34]; decide) (by rw [c34]; decide) (by rw [c34]; rfl) (by decide) ?_
                                                      refine lv_iload_n hx hb dX12_twoOf_193 rfl (lv_at hl 1 rfl) ?_
                                                      refine lv_iload_n hx hb dX12_twoOf_194 rfl (lv_at hl 2 rfl) ?_
                                                      refine lv_icmp_le (tgt := 202) hx hb dX12_twoOf_195 (by decide) (fun c35 => ?_) (fun c35 => ?_)
                                                      · replace hf := ite_t hf c35
                                                        refine lv_iconst (v := 0) hx hb dX12_twoOf_202 (by decide) ?_
                                                        exact w_iret C hw hr hf rfl dX12_twoOf_203
                                                      · replace hf := ite_f hf c35
                                                        refine lv_iconst (v := 1) hx hb dX12_twoOf_198 (by decide) ?_
                                                        refine lv_goto (tgt := 203) hx hb dX12_twoOf_199 (by decide) ?_
                                                        exact w_iret C hw hr hf rfl dX12_twoOf_203
                                                    · replace hf := ite_f hf c34
                                                      refine lv_tableOut (tgt := 218) hx hb dX12_twoOf_1 (by have q0 := ne_toInt (a := 37) c1 (by decide); have q1 := ne_toInt (a := 38) c4 (by decide); have q2 := ne_toInt (a := 39) c7 (by decide); have q3 := ne_toInt (a := 40) c8 (by decide); have q4 := ne_toInt (a := 41) c9 (by decide); have q5 := ne_toInt (a := 42) c10 (by decide); have q6 := ne_toInt (a := 43) c11 (by decide); have q7 := ne_toInt (a := 44) c12 (by decide); have q8 := ne_toInt (a := 45) c13 (by decide); have q9 := ne_toInt (a := 46) c14 (by decide); have q10 := ne_toInt (a := 47) c15 (by decide); have q11 := ne_toInt (a := 48) c18 (by decide); have q12 := ne_toInt (a := 49) c19 (by decide); have q13 := ne_toInt (a := 50) c20 (by decide); have q14 := ne_toInt (a := 51) c21 (by decide); have q15 := ne_toInt (a := 52) c22 (by decide); have q16 := ne_toInt (a := 53) c23 (by decide); have q17 := ne_toInt (a := 54) c24 (by decide); have q18 := ne_toInt (a := 55) c25 (by decide); have q19 := ne_toInt (a := 56) c26 (by decide); have q20 := ne_toInt (a := 57) c27 (by decide); have q21 := ne_toInt (a := 58) c28 (by decide); have q22 := ne_toInt (a := 59) c29 (by decide); have q23 := ne_toInt (a := 60) c30 (by decide); have q24 := ne_toInt (a := 61) c32 (by decide); have q25 := ne_toInt (a := 62) c34 (by decide); omega) (by decide) ?_
                                                      exact tX12_twoOf_218 C hr a1 a2 _ _ _ hw (lv_sub hl [1, 2] rfl) hf
theorem dX12_worked_0 : decode cX12_worked 0 = .ok (.iconst 0, 1) := by decide +kernel
theorem dX12_worked_1 : decode cX12_worked 1 = .ok (.istore 4, 2) := by decide +kernel
theorem dX12_worked_3 : decode cX12_worked 3 = .ok (.sipush 130, 3) := by decide +kernel
theorem dX12_worked_6 : decode cX12_worked 6 = .ok (.iload_n 1, 1) := by decide +kernel
theorem dX12_worked_7 : decode cX12_worked 7 = .ok (.imul, 1) := by decide +kernel
theorem dX12_worked_8 : decode cX12_worked 8 = .ok (.iload_n 2, 1) := by decide +kernel
theorem dX12_worked_9 : decode cX12_worked 9 = .ok (.iadd, 1) := by decide +kernel
theorem dX12_worked_10 : decode cX12_worked 10 = .ok (.istore 5, 2) := by decide +kernel
theorem dX12_worked_12 : decode cX12_worked 12 = .ok (.iload 5, 2) := by decide +kernel
theorem dX12_worked_14 : decode cX12_worked 14 = .ok (.sipush 130, 3) := by decide +kernel
theorem dX12_worked_17 : decode cX12_worked 17 = .ok (.iload_n 1, 1) := by decide +kernel
theorem dX12_worked_18 : decode cX12_worked 18 = .ok (.imul, 1) := by decide +kernel
theorem dX12_worked_19 : decode cX12_worked 19 = .ok (.iload_n 3, 1) := by decide +kernel
theorem dX12_worked_20 : decode cX12_worked 20 = .ok (.iadd, 1) := by decide +kernel
theorem dX12_worked_21 : decode cX12_worked 21 = .ok (.if_icmp .ge 167, 3) := by decide +kernel
theorem dX12_worked_24 : decode cX12_worked 24 = .ok (.aload_n 0, 1) := by decide +kernel
theorem dX12_worked_25 : decode cX12_worked 25 = .ok (.getfield 68, 3) := by decide +kernel
theorem dX12_worked_28 : decode cX12_worked 28 = .ok (.iload 5, 2) := by decide +kernel
theorem dX12_worked_30 : decode cX12_worked 30 = .ok (.baload, 1) := by decide +kernel
theorem dX12_worked_31 : decode cX12_worked 31 = .ok (.istore 6, 2) := by decide +kernel
theorem dX12_worked_33 : decode cX12_worked 33 = .ok (.iload 6, 2) := by decide +kernel
theorem dX12_worked_35 : decode cX12_worked 35 = .ok (.iconst 1, 1) := by decide +kernel
theorem dX12_worked_36 : decode cX12_worked 36 = .ok (.if_icmp .eq 9, 3) := by decide +kernel
theorem dX12_worked_39 : decode cX12_worked 39 = .ok (.iload 6, 2) := by decide +kernel
theorem dX12_worked_41 : decode cX12_worked 41 = .ok (.iconst 2, 1) := by decide +kernel
theorem dX12_worked_42 : decode cX12_worked 42 = .ok (.if_icmp .ne 44, 3) := by decide +kernel
theorem dX12_worked_45 : decode cX12_worked 45 = .ok (.aload_n 0, 1) := by decide +kernel
theorem dX12_worked_46 : decode cX12_worked 46 = .ok (.getfield 87, 3) := by decide +kernel
theorem dX12_worked_49 : decode cX12_worked 49 = .ok (.iload 4, 2) := by decide +kernel
theorem dX12_worked_51 : decode cX12_worked 51 = .ok (.iload 6, 2) := by decide +kernel
theorem dX12_worked_53 : decode cX12_worked 53 = .ok (.iconst 1, 1) := by decide +kernel
theorem dX12_worked_54 : decode cX12_worked 54 = .ok (.if_icmp .ne 13, 3) := by decide +kernel
theorem dX12_worked_57 : decode cX12_worked 57 = .ok (.aload_n 0, 1) := by decide +kernel
theorem dX12_worked_58 : decode cX12_worked 58 = .ok (.getfield 71, 3) := by decide +kernel
theorem dX12_worked_61 : decode cX12_worked 61 = .ok (.iload 5, 2) := by decide +kernel
theorem dX12_worked_63 : decode cX12_worked 63 = .ok (.iaload, 1) := by decide +kernel
theorem dX12_worked_64 : decode cX12_worked 64 = .ok (.goto 15, 3) := by decide +kernel
theorem dX12_worked_67 : decode cX12_worked 67 = .ok (.aload_n 0, 1) := by decide +kernel
theorem dX12_worked_68 : decode cX12_worked 68 = .ok (.getfield 84, 3) := by decide +kernel
theorem dX12_worked_71 : decode cX12_worked 71 = .ok (.aload_n 0, 1) := by decide +kernel
theorem dX12_worked_72 : decode cX12_worked 72 = .ok (.getfield 71, 3) := by decide +kernel
theorem dX12_worked_75 : decode cX12_worked 75 = .ok (.iload 5, 2) := by decide +kernel
theorem dX12_worked_77 : decode cX12_worked 77 = .ok (.iaload, 1) := by decide +kernel
theorem dX12_worked_78 : decode cX12_worked 78 = .ok (.iaload, 1) := by decide +kernel
theorem dX12_worked_79 : decode cX12_worked 79 = .ok (.iastore, 1) := by decide +kernel
theorem dX12_worked_80 : decode cX12_worked 80 = .ok (.iinc 4 1, 3) := by decide +kernel
theorem dX12_worked_83 : decode cX12_worked 83 = .ok (.goto 99, 3) := by decide +kernel
theorem dX12_worked_86 : decode cX12_worked 86 = .ok (.iload 6, 2) := by decide +kernel
theorem dX12_worked_88 : decode cX12_worked 88 = .ok (.iconst 3, 1) := by decide +kernel
theorem dX12_worked_89 : decode cX12_worked 89 = .ok (.if_icmp .ne 32, 3) := by decide +kernel
theorem dX12_worked_92 : decode cX12_worked 92 = .ok (.aload_n 0, 1) := by decide +kernel
theorem dX12_worked_93 : decode cX12_worked 93 = .ok (.getfield 87, 3) := by decide +kernel
theorem dX12_worked_96 : decode cX12_worked 96 = .ok (.iload 4, 2) := by decide +kernel
theorem dX12_worked_98 : decode cX12_worked 98 = .ok (.iconst 1, 1) := by decide +kernel
theorem dX12_worked_99 : decode cX12_worked 99 = .ok (.isub, 1) := by decide +kernel
theorem dX12_worked_100 : decode cX12_worked 100 = .ok (.aload_n 0, 1) := by decide +kernel
theorem dX12_worked_101 : decode cX12_worked 101 = .ok (.getfield 87, 3) := by decide +kernel
theorem dX12_worked_104 : decode cX12_worked 104 = .ok (.iload 4, 2) := by decide +kernel
theorem dX12_worked_106 : decode cX12_worked 106 = .ok (.iconst 1, 1) := by decide +kernel
theorem dX12_worked_107 : decode cX12_worked 107 = .ok (.isub, 1) := by decide +kernel
theorem dX12_worked_108 : decode cX12_worked 108 = .ok (.iaload, 1) := by decide +kernel
theorem dX12_worked_109 : decode cX12_worked 109 = .ok (.ifCond .ne 7, 3) := by decide +kernel
theorem dX12_worked_112 : decode cX12_worked 112 = .ok (.iconst 1, 1) := by decide +kernel
theorem dX12_worked_113 : decode cX12_worked 113 = .ok (.goto 4, 3) := by decide +kernel
theorem dX12_worked_116 : decode cX12_worked 116 = .ok (.iconst 0, 1) := by decide +kernel
theorem dX12_worked_117 : decode cX12_worked 117 = .ok (.iastore, 1) := by decide +kernel
theorem dX12_worked_118 : decode cX12_worked 118 = .ok (.goto 64, 3) := by decide +kernel
theorem dX12_worked_121 : decode cX12_worked 121 = .ok (.iload 6, 2) := by decide +kernel
theorem dX12_worked_123 : decode cX12_worked 123 = .ok (.iconst 4, 1) := by decide +kernel
theorem dX12_worked_124 : decode cX12_worked 124 = .ok (.if_icmp .ne 25, 3) := by decide +kernel
theorem dX12_worked_127 : decode cX12_worked 127 = .ok (.aload_n 0, 1) := by decide +kernel
theorem dX12_worked_128 : decode cX12_worked 128 = .ok (.getfield 87, 3) := by decide +kernel
theorem dX12_worked_131 : decode cX12_worked 131 = .ok (.iload 4, 2) := by decide +kernel
theorem dX12_worked_133 : decode cX12_worked 133 = .ok (.iconst 1, 1) := by decide +kernel
theorem dX12_worked_134 : decode cX12_worked 134 = .ok (.isub, 1) := by decide +kernel
theorem dX12_worked_135 : decode cX12_worked 135 = .ok (.aload_n 0, 1) := by decide +kernel
theorem dX12_worked_136 : decode cX12_worked 136 = .ok (.getfield 87, 3) := by decide +kernel
theorem dX12_worked_139 : decode cX12_worked 139 = .ok (.iload 4, 2) := by decide +kernel
theorem dX12_worked_141 : decode cX12_worked 141 = .ok (.iconst 1, 1) := by decide +kernel
theorem dX12_worked_142 : decode cX12_worked 142 = .ok (.isub, 1) := by decide +kernel
theorem dX12_worked_143 : decode cX12_worked 143 = .ok (.iaload, 1) := by decide +kernel
theorem dX12_worked_144 : decode cX12_worked 144 = .ok (.ineg, 1) := by decide +kernel
theorem dX12_worked_145 : decode cX12_worked 145 = .ok (.iastore, 1) := by decide +kernel
theorem dX12_worked_146 : decode cX12_worked 146 = .ok (.goto 36, 3) := by decide +kernel
theorem dX12_worked_149 : decode cX12_worked 149 = .ok (.iinc 4 (-1), 3) := by decide +kernel
theorem dX12_worked_152 : decode cX12_worked 152 = .ok (.aload_n 0, 1) := by decide +kernel
theorem dX12_worked_153 : decode cX12_worked 153 = .ok (.getfield 87, 3) := by decide +kernel
theorem dX12_worked_156 : decode cX12_worked 156 = .ok (.iload 4, 2) := by decide +kernel
theorem dX12_worked_158 : decode cX12_worked 158 = .ok (.iconst 1, 1) := by decide +kernel
theorem dX12_worked_159 : decode cX12_worked 159 = .ok (.isub, 1) := by decide +kernel
theorem dX12_worked_160 : decode cX12_worked 160 = .ok (.iload 6, 2) := by decide +kernel
theorem dX12_worked_162 : decode cX12_worked 162 = .ok (.aload_n 0, 1) := by decide +kernel
theorem dX12_worked_163 : decode cX12_worked 163 = .ok (.getfield 87, 3) := by decide +kernel
theorem dX12_worked_166 : decode cX12_worked 166 = .ok (.iload 4, 2) := by decide +kernel
theorem dX12_worked_168 : decode cX12_worked 168 = .ok (.iconst 1, 1) := by decide +kernel
theorem dX12_worked_169 : decode cX12_worked 169 = .ok (.isub, 1) := by decide +kernel
theorem dX12_worked_170 : decode cX12_worked 170 = .ok (.iaload, 1) := by decide +kernel
theorem dX12_worked_171 : decode cX12_worked 171 = .ok (.aload_n 0, 1) := by decide +kernel
theorem dX12_worked_172 : decode cX12_worked 172 = .ok (.getfield 87, 3) := by decide +kernel
theorem dX12_worked_175 : decode cX12_worked 175 = .ok (.iload 4, 2) := by decide +kernel
theorem dX12_worked_177 : decode cX12_worked 177 = .ok (.iaload, 1) := by decide +kernel
theorem dX12_worked_178 : decode cX12_worked 178 = .ok (.invokestatic 272, 3) := by decide +kernel
theorem dX12_worked_181 : decode cX12_worked 181 = .ok (.iastore, 1) := by decide +kernel
theorem dX12_worked_182 : decode cX12_worked 182 = .ok (.iinc 5 1, 3) := by decide +kernel
theorem dX12_worked_185 : decode cX12_worked 185 = .ok (.goto (-173), 3) := by decide +kernel
theorem dX12_worked_188 : decode cX12_worked 188 = .ok (.aload_n 0, 1) := by decide +kernel
theorem dX12_worked_189 : decode cX12_worked 189 = .ok (.getfield 87, 3) := by decide +kernel
theorem dX12_worked_192 : decode cX12_worked 192 = .ok (.iconst 0, 1) := by decide +kernel
theorem dX12_worked_193 : decode cX12_worked 193 = .ok (.iaload, 1) := by decide +kernel
theorem dX12_worked_194 : decode cX12_worked 194 = .ok (.ireturn, 1) := by decide +kernel
theorem ok_yX12_worked : yOk yX12_worked 3 := ⟨by decide +kernel, by decide +kernel, by decide +kernel⟩
def fX12_worked_45 (kB12 : St → Int32 → Int32 → Int32 → Int32 → Option (Int32 × St)) (n : Nat) (st : St) (v1 : Int32) (v3 : Int32) (v4 : Int32) (v5 : Int32) (v6 : Int32) : Option (Int32 × St) := if v6 = (1 : Int32) then (gd (inB v5 260) (gd (inB v4 130) (bnd (sI st 26 v4.toNatClampNeg (gI st 21 v5.toNatClampNeg)) (fun st50 => bnd (v4 + (1 : Int32)) (fun x52 => bnd (v5 + (1 : Int32)) (fun x54 => kB12 st50 v1 v3 x52 x54)))))) else (gd (inB v5 260) (gd (inB (gI st 21 v5.toNatClampNeg) 6) (gd (inB v4 130) (bnd (sI st 26 v4.toNatClampNeg (gI st 25 (gI st 21 v5.toNatClampNeg).toNatClampNeg)) (fun st42 => bnd (v4 + (1 : Int32)) (fun x44 => bnd (v5 + (1 : Int32)) (fun x46 => kB12 st42 v1 v3 x44 x46)))))))
set_option maxHeartbeats 4000000 in
theorem tX12_worked_45 {p : Program} {l : Launch} {e : Env} {s : State} {m : MethodId} {args : Array Value} {below : List Frame} {meth : Method} {c : Code} {X : WX} (C : Amb 43 X p s m args meth c cX12_worked 7 RX12) (hr : meth.sig.returnType = some .int) {R : Int32 × St} {n : Nat} {kB12 : St → Int32 → Int32 → Int32 → Int32 → Option (Int32 × St)} (hB12 : ∀ (st : St) (v1 : Int32) (v3 : Int32) (v4 : Int32) (v5 : Int32) (H : Heap) (locs : List Loc) (ls : Array Slot), Wd EM 43 X s.heap st H locs → lv_has ls 7 [(0, .ref (xq X 0)), (1, .int v1), (3, .int v3), (4, .int v4), (5, .int v5)] → kB12 st v1 v3 v4 v5 = some R → W p l e { frames := 1, cells := 0, slots := 0, locals := 22 } s m args below meth c H locs 0 0 (QI EM 43 X R.1 R.2 below args s) (F0 m 12 ls [])) : ∀ (st : St) (v1 : Int32) (v3 : Int32) (v4 : Int32) (v5 : Int32) (v6 : Int32) (H : Heap) (locs : List Loc) (ls : Array Slot), Wd EM 43 X s.heap st H locs → lv_has ls 7 [(0, .ref (xq X 0)), (1, .int v1), (3, .int v3), (4, .int v4), (5, .int v5), (6, .int v6)] → fX12_worked_45 kB12 n st v1 v3 v4 v5 v6 = some R → W p l e { frames := 1, cells := 0, slots := 0, locals := 22 } s m args below meth c H locs 0 0 (QI EM 43 X R.1 R.2 below args s) (F0 m 45 ls []) := by
  obtain ⟨hx, hb, hml, hown, hts⟩ := id C.1
  intro st v1 v3 v4 v5 v6 H locs ls  hw hl hf
  unfold fX12_worked_45 at hf
  refine lv_aload_n hx hb dX12_worked_45 rfl (lv_at hl 0 rfl) ?_
  refine w_get (T := TX12) C hw (by decide) 36 kf_X12_87 (EM_0 X _ _) rfl inA12 (by decide) rfl dX12_worked_46 ?_
  refine lv_iload hx hb dX12_worked_49 (lv_at hl 3 rfl) ?_
  refine lv_iload hx hb dX12_worked_51 (lv_at hl 5 rfl) ?_
  refine lv_iconst (v := 1) hx hb dX12_worked_53 (by decide) ?_
  refine lv_icmp_ne (tgt := 67) hx hb dX12_worked_54 (by decide) (fun c38 => ?_) (fun c38 => ?_)
  · replace hf := ite_f hf c38
    refine lv_aload_n hx hb dX12_worked_67 rfl (lv_at hl 0 rfl) ?_
    refine w_get (T := TX12) C hw (by decide) 35 kf_X12_84 (EM_0 X _ _) rfl inA12 (by decide) rfl dX12_worked_68 ?_
    refine lv_aload_n hx hb dX12_worked_71 rfl (lv_at hl 0 rfl) ?_
    refine w_get (T := TX12) C hw (by decide) 31 kf_X12_71 (EM_0 X _ _) rfl inA12 (by decide) rfl dX12_worked_72 ?_
    refine lv_iload hx hb dX12_worked_75 (lv_at hl 4 rfl) ?_
    obtain ⟨h39, hf⟩ := gd_some hf
    refine w_iald C hw (by decide) (EM_21 X _ _) h39 rfl dX12_worked_77 ?_
    obtain ⟨h40, hf⟩ := gd_some hf
    refine w_iald C hw (by decide) (EM_25 X _ _) h40 rfl dX12_worked_78 ?_
    obtain ⟨h41, hf⟩ := gd_some hf
    obtain ⟨st42, es43⟩ : ∃ z : St, z = sI st 26 v4.toNatClampNeg (gI st 25 (gI st 21 v5.toNatClampNeg).toNatClampNeg) := ⟨_, rfl⟩
    replace hf := bnd_nm hf es43
    refine w_iast C hw (by decide) (fun f9 => EM_26 X f9 _) h41 rfl dX12_worked_79 (fun H locs hw => ?_)
    rw [← es43] at hw
    obtain ⟨x44, e45⟩ : ∃ z : Int32, z = v4 + (1 : Int32) := ⟨_, rfl⟩
    replace hf := bnd_nm hf e45
    refine lv_iinc (v := x44) (lv' := [(4, .int x44), (0, .ref (xq X 0)), (1, .int v1), (3, .int v3), (5, .int v5), (6, .int v6)]) hx hb dX12_worked_80 hl (k := 3) rfl (by rw [e45]; rfl) (by decide) rfl (fun ls hl => ?_)
    refine lv_goto (tgt := 182) hx hb dX12_worked_83 (by decide) ?_
    obtain ⟨x46, e47⟩ : ∃ z : Int32, z = v5 + (1 : Int32) := ⟨_, rfl⟩
    replace hf := bnd_nm hf e47
    refine lv_iinc (v := x46) (lv' := [(5, .int x46), (4, .int x44), (0, .ref (xq X 0)), (1, .int v1), (3, .int v3), (6, .int v6)]) hx hb dX12_worked_182 hl (k := 4) rfl (by rw [e47]; rfl) (by decide) rfl (fun ls hl => ?_)
    refine lv_goto (tgt := 12) hx hb dX12_worked_185 (by decide) ?_
    exact hB12 st42 v1 v3 x44 x46 _ _ _ hw (lv_sub hl [2, 3, 4, 1, 0] rfl) hf
  · replace hf := ite_t hf c38
    refine lv_aload_n hx hb dX12_worked_57 rfl (lv_at hl 0 rfl) ?_
    refine w_get (T := TX12) C hw (by decide) 31 kf_X12_71 (EM_0 X _ _) rfl inA12 (by decide) rfl dX12_worked_58 ?_
    refine lv_iload hx hb dX12_worked_61 (lv_at hl 4 rfl) ?_
    obtain ⟨h48, hf⟩ := gd_some hf
    refine w_iald C hw (by decide) (EM_21 X _ _) h48 rfl dX12_worked_63 ?_
    refine lv_goto (tgt := 79) hx hb dX12_worked_64 (by decide) ?_
    obtain ⟨h49, hf⟩ := gd_some hf
    obtain ⟨st50, es51⟩ : ∃ z : St, z = sI st 26 v4.toNatClampNeg (gI st 21 v5.toNatClampNeg) := ⟨_, rfl⟩
    replace hf := bnd_nm hf es51
    refine w_iast C hw (by decide) (fun f9 => EM_26 X f9 _) h49 rfl dX12_worked_79 (fun H locs hw => ?_)
    rw [← es51] at hw
    obtain ⟨x52, e53⟩ : ∃ z : Int32, z = v4 + (1 : Int32) := ⟨_, rfl⟩
    replace hf := bnd_nm hf e53
    refine lv_iinc (v := x52) (lv' := [(4, .int x52), (0, .ref (xq X 0)), (1, .int v1), (3, .int v3), (5, .int v5), (6, .int v6)]) hx hb dX12_worked_80 hl (k := 3) rfl (by rw [e53]; rfl) (by decide) rfl (fun ls hl => ?_)
    refine lv_goto (tgt := 182) hx hb dX12_worked_83 (by decide) ?_
    obtain ⟨x54, e55⟩ : ∃ z : Int32, z = v5 + (1 : Int32) := ⟨_, rfl⟩
    replace hf := bnd_nm hf e55
    refine lv_iinc (v := x54) (lv' := [(5, .int x54), (4, .int x52), (0, .ref (xq X 0)), (1, .int v1), (3, .int v3), (6, .int v6)]) hx hb dX12_worked_182 hl (k := 4) rfl (by rw [e55]; rfl) (by decide) rfl (fun ls hl => ?_)
    refine lv_goto (tgt := 12) hx hb dX12_worked_185 (by decide) ?_
    exact hB12 st50 v1 v3 x52 x54 _ _ _ hw (lv_sub hl [2, 3, 4, 1, 0] rfl) hf
def fX12_worked_12 (n : Nat) : Nat → St → Int32 → Int32 → Int32 → Int32 → Option (Int32 × St)
  | 0, _, _, _, _, _ => none
  | k + 1, st, v1, v3, v4, v5 => if ((130 : Int32) * v1) + v3 ≤ v5 then (some ((gI st 26 0), st)) else (gd (inB v5 260) (bnd (gI st 20 v5.toNatClampNeg) (fun x5 => if x5 = (1 : Int32) then (fX12_worked_45 (fX12_worked_12 n k) n st v1 v3 v4 v5 x5) else (if x5 = (2 : Int32) then (fX12_worked_45 (fX12_worked_12 n k) n st v1 v3 v4 v5 x5) else (if x5 = (3 : Int32) then (gd (inB (v4 - (1 : Int32)) 130) (if gI st 26 (v4 - (1 : Int32)).toNatClampNeg = 0 then (gd (inB (v4 - (1 : Int32)) 130) (bnd (sI st 26 (v4 - (1 : Int32)).toNatClampNeg (1 : Int32)) (fun st34 => bnd (v5 + (1 : Int32)) (fun x36 => fX12_worked_12 n k st34 v1 v3 v4 x36)))) else (gd (inB (v4 - (1 : Int32)) 130) (bnd (sI st 26 (v4 - (1 : Int32)).toNatClampNeg (0 : Int32)) (fun st29 => bnd (v5 + (1 : Int32)) (fun x31 => fX12_worked_12 n k st29 v1 v3 v4 x31)))))) else (if x5 = (4 : Int32) then (gd (inB (v4 - (1 : Int32)) 130) (gd (inB (v4 - (1 : Int32)) 130) (bnd (sI st 26 (v4 - (1 : Int32)).toNatClampNeg (-(gI st 26 (v4 - (1 : Int32)).toNatClampNeg))) (fun st22 => bnd (v5 + (1 : Int32)) (fun x24 => fX12_worked_12 n k st22 v1 v3 v4 x24))))) else (bnd (v4 + (-1 : Int32)) (fun x11 => gd (inB (x11 - (1 : Int32)) 130) (gd (inB x11 130) (gd (inB (x11 - (1 : Int32)) 130) (bnd (sI st 26 (x11 - (1 : Int32)).toNatClampNeg (fX12_twoOf x5 (gI st 26 (x11 - (1 : Int32)).toNatClampNeg) (gI st 26 x11.toNatClampNeg))) (fun st16 => bnd (v5 + (1 : Int32)) (fun x18 => fX12_worked_12 n k st16 v1 v3 x11 x18)))))))))))))
set_option maxHeartbeats 4000000 in
theorem tX12_worked_12 {p : Program} {l : Launch} {e : Env} {s : State} {m : MethodId} {args : Array Value} {below : List Frame} {meth : Method} {c : Code} {X : WX} (C : Amb 43 X p s m args meth c cX12_worked 7 RX12) (hr : meth.sig.returnType = some .int) {R : Int32 × St} {n : Nat} : ∀ (k : Nat) (st : St) (v1 : Int32) (v3 : Int32) (v4 : Int32) (v5 : Int32) (H : Heap) (locs : List Loc) (ls : Array Slot), Wd EM 43 X s.heap st H locs → lv_has ls 7 [(0, .ref (xq X 0)), (1, .int v1), (3, .int v3), (4, .int v4), (5, .int v5)] → fX12_worked_12 n k st v1 v3 v4 v5 = some R → W p l e { frames := 1, cells := 0, slots := 0, locals := 22 } s m args below meth c H locs 0 0 (QI EM 43 X R.1 R.2 below args s) (F0 m 12 ls []) := by
  obtain ⟨hx, hb, hml, hown, hts⟩ := id C.1
  intro k
  induction k with
  | zero => intro st v1 v3 v4 v5 H locs ls  hw hl hf; exact absurd (show none = some R from hf) (fun z => by cases z)
  | succ k ih =>
    intro st v1 v3 v4 v5 H locs ls  hw hl hf
    rw [fX12_worked_12] at hf
    refine lv_iload hx hb dX12_worked_12 (lv_at hl 4 rfl) ?_
    refine lv_sipush (v := 130) hx hb dX12_worked_14 (by decide) ?_
    refine lv_iload_n hx hb dX12_worked_17 rfl (lv_at hl 1 rfl) ?_
    refine lv_imul hx hb dX12_worked_18 ?_
    refine lv_iload_n hx hb dX12_worked_19 rfl (lv_at hl 2 rfl) ?_
    refine lv_iadd hx hb dX12_worked_20 ?_
    refine lv_icmp_ge (tgt := 188) hx hb dX12_worked_21 (by decide) (fun c3 => ?_) (fun c3 => ?_)
    · replace hf := ite_t hf c3
      refine lv_aload_n hx hb dX12_worked_188 rfl (lv_at hl 0 rfl) ?_
      refine w_get (T := TX12) C hw (by decide) 36 kf_X12_87 (EM_0 X _ _) rfl inA12 (by decide) rfl dX12_worked_189 ?_
      refine lv_iconst (v := 0) hx hb dX12_worked_192 (by decide) ?_
      refine w_iald C hw (by decide) (EM_26 X _ _) (by decide) (show (0 : Int32).toNatClampNeg = 0 by decide) dX12_worked_193 ?_
      exact w_iret C hw hr (so2 hf).1 (so2 hf).2 dX12_worked_194
    · replace hf := ite_f hf c3
      refine lv_aload_n hx hb dX12_worked_24 rfl (lv_at hl 0 rfl) ?_
      refine w_get (T := TX12) C hw (by decide) 30 kf_X12_68 (EM_0 X _ _) rfl inA12 (by decide) rfl dX12_worked_25 ?_
      refine lv_iload hx hb dX12_worked_28 (lv_at hl 4 rfl) ?_
      obtain ⟨h4, hf⟩ := gd_some hf
      refine w_bald C hw (by decide) (EM_20 X _ _) h4 rfl dX12_worked_30 ?_
      refine lv_topi (fun x5 e6 => ?_)
      replace hf := bnd_nm hf e6
      refine lv_istore (lv' := [(6, .int x5), (0, .ref (xq X 0)), (1, .int v1), (3, .int v3), (4, .int v4), (5, .int v5)]) hx hb dX12_worked_31 hl (by decide) rfl (fun ls hl => ?_)
      refine lv_iload hx hb dX12_worked_33 (lv_at hl 0 rfl) ?_
      refine lv_iconst (v := 1) hx hb dX12_worked_35 (by decide) ?_
      refine lv_icmp_eq (tgt := 45) hx hb dX12_worked_36 (by decide) (fun c7 => ?_) (fun c7 => ?_)
      · replace hf := ite_t hf c7
        exact tX12_worked_45 C hr ih st v1 v3 v4 v5 x5 _ _ _ hw (lv_sub hl [1, 2, 3, 4, 5, 0] rfl) hf
      · replace hf := ite_f hf c7
        refine lv_iload hx hb dX12_worked_39 (lv_at hl 0 rfl) ?_
        refine lv_iconst (v := 2) hx hb dX12_worked_41 (by decide) ?_
        refine lv_icmp_ne (tgt := 86) hx hb dX12_worked_42 (by decide) (fun c8 => ?_) (fun c8 => ?_)
        · replace hf := ite_f hf c8
          refine lv_iload hx hb dX12_worked_86 (lv_at hl 0 rfl) ?_
          refine lv_iconst (v := 3) hx hb dX12_worked_88 (by decide) ?_
          refine lv_icmp_ne (tgt := 121) hx hb dX12_worked_89 (by decide) (fun c9 => ?_) (fun c9 => ?_)
          · replace hf := ite_f hf c9
            refine lv_iload hx hb dX12_worked_121 (lv_at hl 0 rfl) ?_
            refine lv_iconst (v := 4) hx hb dX12_worked_123 (by decide) ?_
            refine lv_icmp_ne (tgt := 149) hx hb dX12_worked_124 (by decide) (fun c10 => ?_) (fun c10 => ?_)
            · replace hf := ite_f hf c10
              obtain ⟨x11, e12⟩ : ∃ z : Int32, z = v4 + (-1 : Int32) := ⟨_, rfl⟩
              replace hf := bnd_nm hf e12
              refine lv_iinc (v := x11) (lv' := [(4, .int x11), (6, .int x5), (0, .ref (xq X 0)), (1, .int v1), (3, .int v3), (5, .int v5)]) hx hb dX12_worked_149 hl (k := 4) rfl (by rw [e12]; rfl) (by decide) rfl (fun ls hl => ?_)
              refine lv_aload_n hx hb dX12_worked_152 rfl (lv_at hl 2 rfl) ?_
              refine w_get (T := TX12) C hw (by decide) 36 kf_X12_87 (EM_0 X _ _) rfl inA12 (by decide) rfl dX12_worked_153 ?_
              refine lv_iload hx hb dX12_worked_156 (lv_at hl 0 rfl) ?_
              refine lv_iconst (v := 1) hx hb dX12_worked_158 (by decide) ?_
              refine lv_isub hx hb dX12_worked_159 ?_
              refine lv_iload hx hb dX12_worked_160 (lv_at hl 1 rfl) ?_
              refine lv_aload_n hx hb dX12_worked_162 rfl (lv_at hl 2 rfl) ?_
              refine w_get (T := TX12) C hw (by decide) 36 kf_X12_87 (EM_0 X _ _) rfl inA12 (by decide) rfl dX12_worked_163 ?_
              refine lv_iload hx hb dX12_worked_166 (lv_at hl 0 rfl) ?_
              refine lv_iconst (v := 1) hx hb dX12_worked_168 (by decide) ?_
              refine lv_isub hx hb dX12_worked_169 ?_
              obtain ⟨h13, hf⟩ := gd_some hf
              refine w_iald C hw (by decide) (EM_26 X _ _) h13 rfl dX12_worked_170 ?_
              refine lv_aload_n hx hb dX12_worked_171 rfl (lv_at hl 2 rfl) ?_
              refine w_get (T := TX12) C hw (by decide) 36 kf_X12_87 (EM_0 X _ _) rfl inA12 (by decide) rfl dX12_worked_172 ?_
              refine lv_iload hx hb dX12_worked_175 (lv_at hl 0 rfl) ?_
              obtain ⟨h14, hf⟩ := gd_some hf
              refine w_iald C hw (by decide) (EM_26 X _ _) h14 rfl dX12_worked_177 ?_
              refine w_goI hw (w_runS (rest := [.int (x11 - (1 : Int32)), .ref (xq X 26)]) C hw (zX12_twoOf _ _ st x5 (gI st 26 (x11 - (1 : Int32)).toNatClampNeg) (gI st 26 x11.toNatClampNeg)) km_X12_272 kt_yX12_twoOf kz_X12 kc_X12_twoOf ok_yX12_twoOf ⟨Nat.le_of_ble_eq_true rfl, Nat.le_of_ble_eq_true rfl⟩ rfl rfl rfl rfl hl.1 (Nat.le_of_ble_eq_true rfl) dX12_worked_178 ⟨Nat.zero_le _, Nat.zero_le _⟩) (fun H locs hw => ?_)
              obtain ⟨h15, hf⟩ := gd_some hf
              obtain ⟨st16, es17⟩ : ∃ z : St, z = sI st 26 (x11 - (1 : Int32)).toNatClampNeg (fX12_twoOf x5 (gI st 26 (x11 - (1 : Int32)).toNatClampNeg) (gI st 26 x11.toNatClampNeg)) := ⟨_, rfl⟩
              replace hf := bnd_nm hf es17
              refine w_iast C hw (by decide) (fun f9 => EM_26 X f9 _) h15 rfl dX12_worked_181 (fun H locs hw => ?_)
              rw [← es17] at hw
              obtain ⟨x18, e19⟩ : ∃ z : Int32, z = v5 + (1 : Int32) := ⟨_, rfl⟩
              replace hf := bnd_nm hf e19
              refine lv_iinc (v := x18) (lv' := [(5, .int x18), (4, .int x11), (6, .int x5), (0, .ref (xq X 0)), (1, .int v1), (3, .int v3)]) hx hb dX12_worked_182 hl (k := 5) rfl (by rw [e19]; rfl) (by decide) rfl (fun ls hl => ?_)
              refine lv_goto (tgt := 12) hx hb dX12_worked_185 (by decide) ?_
              exact ih st16 v1 v3 x11 x18 _ _ _ hw (lv_sub hl [3, 4, 5, 1, 0] rfl) hf
            · replace hf := ite_t hf c10
              refine lv_aload_n hx hb dX12_worked_127 rfl (lv_at hl 1 rfl) ?_
              refine w_get (T := TX12) C hw (by decide) 36 kf_X12_87 (EM_0 X _ _) rfl inA12 (by decide) rfl dX12_worked_128 ?_
              refine lv_iload hx hb dX12_worked_131 (lv_at hl 4 rfl) ?_
              refine lv_iconst (v := 1) hx hb dX12_worked_133 (by decide) ?_
              refine lv_isub hx hb dX12_worked_134 ?_
              refine lv_aload_n hx hb dX12_worked_135 rfl (lv_at hl 1 rfl) ?_
              refine w_get (T := TX12) C hw (by decide) 36 kf_X12_87 (EM_0 X _ _) rfl inA12 (by decide) rfl dX12_worked_136 ?_
              refine lv_iload hx hb dX12_worked_139 (lv_at hl 4 rfl) ?_
              refine lv_iconst (v := 1) hx hb dX12_worked_141 (by decide) ?_
              refine lv_isub hx hb dX12_worked_142 ?_
              obtain ⟨h20, hf⟩ := gd_some hf
              refine w_iald C hw (by decide) (EM_26 X _ _) h20 rfl dX12_worked_143 ?_
              refine lv_ineg hx hb dX12_worked_144 ?_
              obtain ⟨h21, hf⟩ := gd_some hf
              obtain ⟨st22, es23⟩ : ∃ z : St, z = sI st 26 (v4 - (1 : Int32)).toNatClampNeg (-(gI st 26 (v4 - (1 : Int32)).toNatClampNeg)) := ⟨_, rfl⟩
              replace hf := bnd_nm hf es23
              refine w_iast C hw (by decide) (fun f9 => EM_26 X f9 _) h21 rfl dX12_worked_145 (fun H locs hw => ?_)
              rw [← es23] at hw
              refine lv_goto (tgt := 182) hx hb dX12_worked_146 (by decide) ?_
              obtain ⟨x24, e25⟩ : ∃ z : Int32, z = v5 + (1 : Int32) := ⟨_, rfl⟩
              replace hf := bnd_nm hf e25
              refine lv_iinc (v := x24) (lv' := [(5, .int x24), (6, .int x5), (0, .ref (xq X 0)), (1, .int v1), (3, .int v3), (4, .int v4)]) hx hb dX12_worked_182 hl (k := 5) rfl (by rw [e25]; rfl) (by decide) rfl (fun ls hl => ?_)
              refine lv_goto (tgt := 12) hx hb dX12_worked_185 (by decide) ?_
              exact ih st22 v1 v3 v4 x24 _ _ _ hw (lv_sub hl [2, 3, 4, 5, 0] rfl) hf
          · replace hf := ite_t hf c9
            refine lv_aload_n hx hb dX12_worked_92 rfl (lv_at hl 1 rfl) ?_
            refine w_get (T := TX12) C hw (by decide) 36 kf_X12_87 (EM_0 X _ _) rfl inA12 (by decide) rfl dX12_worked_93 ?_
            refine lv_iload hx hb dX12_worked_96 (lv_at hl 4 rfl) ?_
            refine lv_iconst (v := 1) hx hb dX12_worked_98 (by decide) ?_
            refine lv_isub hx hb dX12_worked_99 ?_
            refine lv_aload_n hx hb dX12_worked_100 rfl (lv_at hl 1 rfl) ?_
            refine w_get (T := TX12) C hw (by decide) 36 kf_X12_87 (EM_0 X _ _) rfl inA12 (by decide) rfl dX12_worked_101 ?_
            refine lv_iload hx hb dX12_worked_104 (lv_at hl 4 rfl) ?_
            refine lv_iconst (v := 1) hx hb dX12_worked_106 (by decide) ?_
            refine lv_isub hx hb dX12_worked_107 ?_
            obtain ⟨h26, hf⟩ := gd_some hf
            refine w_iald C hw (by decide) (EM_26 X _ _) h26 rfl dX12_worked_108 ?_
            refine lv_if_ne (tgt := 116) hx hb dX12_worked_109 (by decide) (fun c27 => ?_) (fun c27 => ?_)
            · replace hf := ite_f hf c27
              refine lv_iconst (v := 0) hx hb dX12_worked_116 (by decide) ?_
              obtain ⟨h28, hf⟩ := gd_some hf
              obtain ⟨st29, es30⟩ : ∃ z : St, z = sI st 26 (v4 - (1 : Int32)).toNatClampNeg (0 : Int32) := ⟨_, rfl⟩
              replace hf := bnd_nm hf es30
              refine w_iast C hw (by decide) (fun f9 => EM_26 X f9 _) h28 rfl dX12_worked_117 (fun H locs hw => ?_)
              rw [← es30] at hw
              refine lv_goto (tgt := 182) hx hb dX12_worked_118 (by decide) ?_
              obtain ⟨x31, e32⟩ : ∃ z : Int32, z = v5 + (1 : Int32) := ⟨_, rfl⟩
              replace hf := bnd_nm hf e32
              refine lv_iinc (v := x31) (lv' := [(5, .int x31), (6, .int x5), (0, .ref (xq X 0)), (1, .int v1), (3, .int v3), (4, .int v4)]) hx hb dX12_worked_182 hl (k := 5) rfl (by rw [e32]; rfl) (by decide) rfl (fun ls hl => ?_)
              refine lv_goto (tgt := 12) hx hb dX12_worked_185 (by decide) ?_
              exact ih st29 v1 v3 v4 x31 _ _ _ hw (lv_sub hl [2, 3, 4, 5, 0] rfl) hf
            · replace hf := ite_t hf c27
              refine lv_iconst (v := 1) hx hb dX12_worked_112 (by decide) ?_
              refine lv_goto (tgt := 117) hx hb dX12_worked_113 (by decide) ?_
              obtain ⟨h33, hf⟩ := gd_some hf
              obtain ⟨st34, es35⟩ : ∃ z : St, z = sI st 26 (v4 - (1 : Int32)).toNatClampNeg (1 : Int32) := ⟨_, rfl⟩
              replace hf := bnd_nm hf es35
              refine w_iast C hw (by decide) (fun f9 => EM_26 X f9 _) h33 rfl dX12_worked_117 (fun H locs hw => ?_)
              rw [← es35] at hw
              refine lv_goto (tgt := 182) hx hb dX12_worked_118 (by decide) ?_
              obtain ⟨x36, e37⟩ : ∃ z : Int32, z = v5 + (1 : Int32) := ⟨_, rfl⟩
              replace hf := bnd_nm hf e37
              refine lv_iinc (v := x36) (lv' := [(5, .int x36), (6, .int x5), (0, .ref (xq X 0)), (1, .int v1), (3, .int v3), (4, .int v4)]) hx hb dX12_worked_182 hl (k := 5) rfl (by rw [e37]; rfl) (by decide) rfl (fun ls hl => ?_)
              refine lv_goto (tgt := 12) hx hb dX12_worked_185 (by decide) ?_
              exact ih st34 v1 v3 v4 x36 _ _ _ hw (lv_sub hl [2, 3, 4, 5, 0] rfl) hf
        · replace hf := ite_t hf c8
          exact tX12_worked_45 C hr ih st v1 v3 v4 v5 x5 _ _ _ hw (lv_sub hl [1, 2, 3, 4, 5, 0] rfl) hf
def fX12_worked (n : Nat) (st : St) (a1 : Int32) (a2 : Int32) (a3 : Int32) : Option (Int32 × St) := bnd (((130 : Int32) * a1) + a2) (fun x1 => fX12_worked_12 n n st a1 a3 (0 : Int32) x1)
set_option maxHeartbeats 4000000 in
theorem zX12_worked (l : Launch) (X : WX) (n : Nat) (st : St) (a1 : Int32) (a2 : Int32) (a3 : Int32) (R : Int32 × St) (hf : fX12_worked n st a1 a2 a3 = some R) : CtI l yX12_worked cX12_worked 7 .int ({ frames := 1, cells := 0, slots := 0, locals := 22 }) EM 43 X [.ref (xq X 0), .int a1, .int a2, .int a3] st R.1 R.2 := by
  refine ct_in (own := RX12) (by decide +kernel) rfl (Nat.le_of_ble_eq_true rfl) (fun p e s m below meth c C hr hw ls hl => ?_)
  obtain ⟨hx, hb, hml, hown, hts⟩ := id C.1
  have hl : lv_has ls 7 [(0, .ref (xq X 0)), (1, .int a1), (2, .int a2), (3, .int a3)] := hl
  unfold fX12_worked at hf
  refine lv_iconst (v := 0) hx hb dX12_worked_0 (by decide) ?_
  refine lv_istore (lv' := [(4, .int (0 : Int32)), (0, .ref (xq X 0)), (1, .int a1), (2, .int a2), (3, .int a3)]) hx hb dX12_worked_1 hl (by decide) rfl (fun ls hl => ?_)
  refine lv_sipush (v := 130) hx hb dX12_worked_3 (by decide) ?_
  refine lv_iload_n hx hb dX12_worked_6 rfl (lv_at hl 2 rfl) ?_
  refine lv_imul hx hb dX12_worked_7 ?_
  refine lv_iload_n hx hb dX12_worked_8 rfl (lv_at hl 3 rfl) ?_
  refine lv_iadd hx hb dX12_worked_9 ?_
  refine lv_topi (fun x1 e2 => ?_)
  replace hf := bnd_nm hf e2
  refine lv_istore (lv' := [(5, .int x1), (4, .int (0 : Int32)), (0, .ref (xq X 0)), (1, .int a1), (2, .int a2), (3, .int a3)]) hx hb dX12_worked_10 hl (by decide) rfl (fun ls hl => ?_)
  exact tX12_worked_12 C hr n st a1 a3 (0 : Int32) x1 _ _ _ hw (lv_sub hl [2, 3, 5, 1, 0] rfl) hf
theorem dX12_gives_0 : decode cX12_gives 0 = .ok (.iconst 0, 1) := by decide +kernel
theorem dX12_gives_1 : decode cX12_gives 1 = .ok (.istore_n 2, 1) := by decide +kernel
theorem dX12_gives_2 : decode cX12_gives 2 = .ok (.bipush 61, 2) := by decide +kernel
theorem dX12_gives_4 : decode cX12_gives 4 = .ok (.iload_n 1, 1) := by decide +kernel
theorem dX12_gives_5 : decode cX12_gives 5 = .ok (.imul, 1) := by decide +kernel
theorem dX12_gives_6 : decode cX12_gives 6 = .ok (.istore_n 3, 1) := by decide +kernel
theorem dX12_gives_7 : decode cX12_gives 7 = .ok (.iload_n 3, 1) := by decide +kernel
theorem dX12_gives_8 : decode cX12_gives 8 = .ok (.bipush 61, 2) := by decide +kernel
theorem dX12_gives_10 : decode cX12_gives 10 = .ok (.iload_n 1, 1) := by decide +kernel
theorem dX12_gives_11 : decode cX12_gives 11 = .ok (.imul, 1) := by decide +kernel
theorem dX12_gives_12 : decode cX12_gives 12 = .ok (.aload_n 0, 1) := by decide +kernel
theorem dX12_gives_13 : decode cX12_gives 13 = .ok (.getfield 74, 3) := by decide +kernel
theorem dX12_gives_16 : decode cX12_gives 16 = .ok (.iload_n 1, 1) := by decide +kernel
theorem dX12_gives_17 : decode cX12_gives 17 = .ok (.iaload, 1) := by decide +kernel
theorem dX12_gives_18 : decode cX12_gives 18 = .ok (.iadd, 1) := by decide +kernel
theorem dX12_gives_19 : decode cX12_gives 19 = .ok (.if_icmp .ge 59, 3) := by decide +kernel
theorem dX12_gives_22 : decode cX12_gives 22 = .ok (.aload_n 0, 1) := by decide +kernel
theorem dX12_gives_23 : decode cX12_gives 23 = .ok (.getfield 77, 3) := by decide +kernel
theorem dX12_gives_26 : decode cX12_gives 26 = .ok (.iload_n 3, 1) := by decide +kernel
theorem dX12_gives_27 : decode cX12_gives 27 = .ok (.saload, 1) := by decide +kernel
theorem dX12_gives_28 : decode cX12_gives 28 = .ok (.iload_n 2, 1) := by decide +kernel
theorem dX12_gives_29 : decode cX12_gives 29 = .ok (.if_icmp .eq 18, 3) := by decide +kernel
theorem dX12_gives_32 : decode cX12_gives 32 = .ok (.aload_n 0, 1) := by decide +kernel
theorem dX12_gives_33 : decode cX12_gives 33 = .ok (.iload_n 1, 1) := by decide +kernel
theorem dX12_gives_34 : decode cX12_gives 34 = .ok (.iload_n 2, 1) := by decide +kernel
theorem dX12_gives_35 : decode cX12_gives 35 = .ok (.aload_n 0, 1) := by decide +kernel
theorem dX12_gives_36 : decode cX12_gives 36 = .ok (.getfield 77, 3) := by decide +kernel
theorem dX12_gives_39 : decode cX12_gives 39 = .ok (.iload_n 3, 1) := by decide +kernel
theorem dX12_gives_40 : decode cX12_gives 40 = .ok (.saload, 1) := by decide +kernel
theorem dX12_gives_41 : decode cX12_gives 41 = .ok (.invokevirtual 275, 3) := by decide +kernel
theorem dX12_gives_44 : decode cX12_gives 44 = .ok (.ifCond .eq 21, 3) := by decide +kernel
theorem dX12_gives_47 : decode cX12_gives 47 = .ok (.aload_n 0, 1) := by decide +kernel
theorem dX12_gives_48 : decode cX12_gives 48 = .ok (.iload_n 1, 1) := by decide +kernel
theorem dX12_gives_49 : decode cX12_gives 49 = .ok (.aload_n 0, 1) := by decide +kernel
theorem dX12_gives_50 : decode cX12_gives 50 = .ok (.getfield 77, 3) := by decide +kernel
theorem dX12_gives_53 : decode cX12_gives 53 = .ok (.iload_n 3, 1) := by decide +kernel
theorem dX12_gives_54 : decode cX12_gives 54 = .ok (.saload, 1) := by decide +kernel
theorem dX12_gives_55 : decode cX12_gives 55 = .ok (.aload_n 0, 1) := by decide +kernel
theorem dX12_gives_56 : decode cX12_gives 56 = .ok (.getfield 81, 3) := by decide +kernel
theorem dX12_gives_59 : decode cX12_gives 59 = .ok (.iload_n 3, 1) := by decide +kernel
theorem dX12_gives_60 : decode cX12_gives 60 = .ok (.saload, 1) := by decide +kernel
theorem dX12_gives_61 : decode cX12_gives 61 = .ok (.invokevirtual 275, 3) := by decide +kernel
theorem dX12_gives_64 : decode cX12_gives 64 = .ok (.ireturn, 1) := by decide +kernel
theorem dX12_gives_65 : decode cX12_gives 65 = .ok (.aload_n 0, 1) := by decide +kernel
theorem dX12_gives_66 : decode cX12_gives 66 = .ok (.getfield 81, 3) := by decide +kernel
theorem dX12_gives_69 : decode cX12_gives 69 = .ok (.iload_n 3, 1) := by decide +kernel
theorem dX12_gives_70 : decode cX12_gives 70 = .ok (.saload, 1) := by decide +kernel
theorem dX12_gives_71 : decode cX12_gives 71 = .ok (.istore_n 2, 1) := by decide +kernel
theorem dX12_gives_72 : decode cX12_gives 72 = .ok (.iinc 3 1, 3) := by decide +kernel
theorem dX12_gives_75 : decode cX12_gives 75 = .ok (.goto (-68), 3) := by decide +kernel
theorem dX12_gives_78 : decode cX12_gives 78 = .ok (.iconst 0, 1) := by decide +kernel
theorem dX12_gives_79 : decode cX12_gives 79 = .ok (.ireturn, 1) := by decide +kernel
theorem ok_yX12_gives : yOk yX12_gives 1 := ⟨by decide +kernel, by decide +kernel, by decide +kernel⟩
def fX12_gives_47 (n : Nat) (st : St) (v1 : Int32) (v3 : Int32) : Option (Int32 × St) := gd (inB v3 122) (gd (inB v3 122) ((fX12_worked n st v1 (gI st 23 v3.toNatClampNeg) (gI st 24 v3.toNatClampNeg)).bind (fun r18 => some (r18.1, r18.2))))
set_option maxHeartbeats 4000000 in
theorem tX12_gives_47 {p : Program} {l : Launch} {e : Env} {s : State} {m : MethodId} {args : Array Value} {below : List Frame} {meth : Method} {c : Code} {X : WX} (C : Amb 43 X p s m args meth c cX12_gives 4 RX12) (hr : meth.sig.returnType = some .int) {R : Int32 × St} {n : Nat} : ∀ (st : St) (v1 : Int32) (v3 : Int32) (H : Heap) (locs : List Loc) (ls : Array Slot), Wd EM 43 X s.heap st H locs → lv_has ls 4 [(0, .ref (xq X 0)), (1, .int v1), (3, .int v3)] → fX12_gives_47 n st v1 v3 = some R → W p l e { frames := 2, cells := 0, slots := 0, locals := 48 } s m args below meth c H locs 0 0 (QI EM 43 X R.1 R.2 below args s) (F0 m 47 ls []) := by
  obtain ⟨hx, hb, hml, hown, hts⟩ := id C.1
  intro st v1 v3 H locs ls  hw hl hf
  unfold fX12_gives_47 at hf
  refine lv_aload_n hx hb dX12_gives_47 rfl (lv_at hl 0 rfl) ?_
  refine lv_iload_n hx hb dX12_gives_48 rfl (lv_at hl 1 rfl) ?_
  refine lv_aload_n hx hb dX12_gives_49 rfl (lv_at hl 0 rfl) ?_
  refine w_get (T := TX12) C hw (by decide) 33 kf_X12_77 (EM_0 X _ _) rfl inA12 (by decide) rfl dX12_gives_50 ?_
  refine lv_iload_n hx hb dX12_gives_53 rfl (lv_at hl 2 rfl) ?_
  obtain ⟨h16, hf⟩ := gd_some hf
  refine w_sald C hw (by decide) (EM_23 X _ _) h16 rfl dX12_gives_54 ?_
  refine lv_aload_n hx hb dX12_gives_55 rfl (lv_at hl 0 rfl) ?_
  refine w_get (T := TX12) C hw (by decide) 34 kf_X12_81 (EM_0 X _ _) rfl inA12 (by decide) rfl dX12_gives_56 ?_
  refine lv_iload_n hx hb dX12_gives_59 rfl (lv_at hl 2 rfl) ?_
  obtain ⟨h17, hf⟩ := gd_some hf
  refine w_sald C hw (by decide) (EM_24 X _ _) h17 rfl dX12_gives_60 ?_
  obtain ⟨r18, k19, hf⟩ := bd_some hf
  refine w_goI hw (w_runV (rest := []) C hw (zX12_worked _ _ n st v1 (gI st 23 v3.toNatClampNeg) (gI st 24 v3.toNatClampNeg) r18 k19) (by decide) (EM_0 X _ _) rfl km_X12_275 ki_yX12_worked kv_X12_worked kz_X12 kc_X12_worked rfl ok_yX12_worked ⟨Nat.le_of_ble_eq_true rfl, Nat.le_of_ble_eq_true rfl⟩ rfl rfl rfl rfl hl.1 (Nat.le_of_ble_eq_true rfl) dX12_gives_61 ⟨Nat.zero_le _, Nat.zero_le _⟩) (fun H locs hw => ?_)
  exact w_iret C hw hr (so2 hf).1 (so2 hf).2 dX12_gives_64
def fX12_gives_7 (n : Nat) : Nat → St → Int32 → Int32 → Int32 → Option (Int32 × St)
  | 0, _, _, _, _ => none
  | k + 1, st, v1, v2, v3 => gd (inB v1 2) (if ((61 : Int32) * v1) + (gI st 22 v1.toNatClampNeg) ≤ v3 then (some ((0 : Int32), st)) else (gd (inB v3 122) (if gI st 23 v3.toNatClampNeg = v2 then (fX12_gives_47 n st v1 v3) else (gd (inB v3 122) ((fX12_worked n st v1 v2 (gI st 23 v3.toNatClampNeg)).bind (fun r8 => if r8.1 = 0 then (gd (inB v3 122) (bnd (gI r8.2 24 v3.toNatClampNeg) (fun x12 => bnd (v3 + (1 : Int32)) (fun x14 => fX12_gives_7 n k r8.2 v1 x12 x14)))) else (fX12_gives_47 n r8.2 v1 v3)))))))
set_option maxHeartbeats 4000000 in
theorem tX12_gives_7 {p : Program} {l : Launch} {e : Env} {s : State} {m : MethodId} {args : Array Value} {below : List Frame} {meth : Method} {c : Code} {X : WX} (C : Amb 43 X p s m args meth c cX12_gives 4 RX12) (hr : meth.sig.returnType = some .int) {R : Int32 × St} {n : Nat} : ∀ (k : Nat) (st : St) (v1 : Int32) (v2 : Int32) (v3 : Int32) (H : Heap) (locs : List Loc) (ls : Array Slot), Wd EM 43 X s.heap st H locs → lv_has ls 4 [(0, .ref (xq X 0)), (1, .int v1), (2, .int v2), (3, .int v3)] → fX12_gives_7 n k st v1 v2 v3 = some R → W p l e { frames := 2, cells := 0, slots := 0, locals := 48 } s m args below meth c H locs 0 0 (QI EM 43 X R.1 R.2 below args s) (F0 m 7 ls []) := by
  obtain ⟨hx, hb, hml, hown, hts⟩ := id C.1
  intro k
  induction k with
  | zero => intro st v1 v2 v3 H locs ls  hw hl hf; exact absurd (show none = some R from hf) (fun z => by cases z)
  | succ k ih =>
    intro st v1 v2 v3 H locs ls  hw hl hf
    rw [fX12_gives_7] at hf
    refine lv_iload_n hx hb dX12_gives_7 rfl (lv_at hl 3 rfl) ?_
    refine lv_bipush (v := 61) hx hb dX12_gives_8 (by decide) ?_
    refine lv_iload_n hx hb dX12_gives_10 rfl (lv_at hl 1 rfl) ?_
    refine lv_imul hx hb dX12_gives_11 ?_
    refine lv_aload_n hx hb dX12_gives_12 rfl (lv_at hl 0 rfl) ?_
    refine w_get (T := TX12) C hw (by decide) 32 kf_X12_74 (EM_0 X _ _) rfl inA12 (by decide) rfl dX12_gives_13 ?_
    refine lv_iload_n hx hb dX12_gives_16 rfl (lv_at hl 1 rfl) ?_
    obtain ⟨h3, hf⟩ := gd_some hf
    refine w_iald C hw (by decide) (EM_22 X _ _) h3 rfl dX12_gives_17 ?_
    refine lv_iadd hx hb dX12_gives_18 ?_
    refine lv_icmp_ge (tgt := 78) hx hb dX12_gives_19 (by decide) (fun c4 => ?_) (fun c4 => ?_)
    · replace hf := ite_t hf c4
      refine lv_iconst (v := 0) hx hb dX12_gives_78 (by decide) ?_
      exact w_iret C hw hr (so2 hf).1 (so2 hf).2 dX12_gives_79
    · replace hf := ite_f hf c4
      refine lv_aload_n hx hb dX12_gives_22 rfl (lv_at hl 0 rfl) ?_
      refine w_get (T := TX12) C hw (by decide) 33 kf_X12_77 (EM_0 X _ _) rfl inA12 (by decide) rfl dX12_gives_23 ?_
      refine lv_iload_n hx hb dX12_gives_26 rfl (lv_at hl 3 rfl) ?_
      obtain ⟨h5, hf⟩ := gd_some hf
      refine w_sald C hw (by decide) (EM_23 X _ _) h5 rfl dX12_gives_27 ?_
      refine lv_iload_n hx hb dX12_gives_28 rfl (lv_at hl 2 rfl) ?_
      refine lv_icmp_eq (tgt := 47) hx hb dX12_gives_29 (by decide) (fun c6 => ?_) (fun c6 => ?_)
      · replace hf := ite_t hf c6
        exact tX12_gives_47 C hr st v1 v3 _ _ _ hw (lv_sub hl [0, 1, 3] rfl) hf
      · replace hf := ite_f hf c6
        refine lv_aload_n hx hb dX12_gives_32 rfl (lv_at hl 0 rfl) ?_
        refine lv_iload_n hx hb dX12_gives_33 rfl (lv_at hl 1 rfl) ?_
        refine lv_iload_n hx hb dX12_gives_34 rfl (lv_at hl 2 rfl) ?_
        refine lv_aload_n hx hb dX12_gives_35 rfl (lv_at hl 0 rfl) ?_
        refine w_get (T := TX12) C hw (by decide) 33 kf_X12_77 (EM_0 X _ _) rfl inA12 (by decide) rfl dX12_gives_36 ?_
        refine lv_iload_n hx hb dX12_gives_39 rfl (lv_at hl 3 rfl) ?_
        obtain ⟨h7, hf⟩ := gd_some hf
        refine w_sald C hw (by decide) (EM_23 X _ _) h7 rfl dX12_gives_40 ?_
        obtain ⟨r8, k9, hf⟩ := bd_some hf
        refine w_goI hw (w_runV (rest := []) C hw (zX12_worked _ _ n st v1 v2 (gI st 23 v3.toNatClampNeg) r8 k9) (by decide) (EM_0 X _ _) rfl km_X12_275 ki_yX12_worked kv_X12_worked kz_X12 kc_X12_worked rfl ok_yX12_worked ⟨Nat.le_of_ble_eq_true rfl, Nat.le_of_ble_eq_true rfl⟩ rfl rfl rfl rfl hl.1 (Nat.le_of_ble_eq_true rfl) dX12_gives_41 ⟨Nat.zero_le _, Nat.zero_le _⟩) (fun H locs hw => ?_)
        refine lv_if_eq (tgt := 65) hx hb dX12_gives_44 (by decide) (fun c10 => ?_) (fun c10 => ?_)
        · replace hf := ite_t hf c10
          refine lv_aload_n hx hb dX12_gives_65 rfl (lv_at hl 0 rfl) ?_
          refine w_get (T := TX12) C hw (by decide) 34 kf_X12_81 (EM_0 X _ _) rfl inA12 (by decide) rfl dX12_gives_66 ?_
          refine lv_iload_n hx hb dX12_gives_69 rfl (lv_at hl 3 rfl) ?_
          obtain ⟨h11, hf⟩ := gd_some hf
          refine w_sald C hw (by decide) (EM_24 X _ _) h11 rfl dX12_gives_70 ?_
          refine lv_topi (fun x12 e13 => ?_)
          replace hf := bnd_nm hf e13
          refine lv_istore_n (lv' := [(2, .int x12), (0, .ref (xq X 0)), (1, .int v1), (3, .int v3)]) hx hb dX12_gives_71 rfl hl (by decide) rfl (fun ls hl => ?_)
          obtain ⟨x14, e15⟩ : ∃ z : Int32, z = v3 + (1 : Int32) := ⟨_, rfl⟩
          replace hf := bnd_nm hf e15
          refine lv_iinc (v := x14) (lv' := [(3, .int x14), (2, .int x12), (0, .ref (xq X 0)), (1, .int v1)]) hx hb dX12_gives_72 hl (k := 3) rfl (by rw [e15]; rfl) (by decide) rfl (fun ls hl => ?_)
          refine lv_goto (tgt := 7) hx hb dX12_gives_75 (by decide) ?_
          exact ih r8.2 v1 x12 x14 _ _ _ hw (lv_sub hl [2, 3, 1, 0] rfl) hf
        · replace hf := ite_f hf c10
          exact tX12_gives_47 C hr r8.2 v1 v3 _ _ _ hw (lv_sub hl [0, 1, 3] rfl) hf
def fX12_gives (n : Nat) (st : St) (a1 : Int32) : Option (Int32 × St) := bnd ((61 : Int32) * a1) (fun x1 => fX12_gives_7 n n st a1 (0 : Int32) x1)
set_option maxHeartbeats 4000000 in
theorem zX12_gives (l : Launch) (X : WX) (n : Nat) (st : St) (a1 : Int32) (R : Int32 × St) (hf : fX12_gives n st a1 = some R) : CtI l yX12_gives cX12_gives 4 .int ({ frames := 2, cells := 0, slots := 0, locals := 48 }) EM 43 X [.ref (xq X 0), .int a1] st R.1 R.2 := by
  refine ct_in (own := RX12) (by decide +kernel) rfl (Nat.le_of_ble_eq_true rfl) (fun p e s m below meth c C hr hw ls hl => ?_)
  obtain ⟨hx, hb, hml, hown, hts⟩ := id C.1
  have hl : lv_has ls 4 [(0, .ref (xq X 0)), (1, .int a1)] := hl
  unfold fX12_gives at hf
  refine lv_iconst (v := 0) hx hb dX12_gives_0 (by decide) ?_
  refine lv_istore_n (lv' := [(2, .int (0 : Int32)), (0, .ref (xq X 0)), (1, .int a1)]) hx hb dX12_gives_1 rfl hl (by decide) rfl (fun ls hl => ?_)
  refine lv_bipush (v := 61) hx hb dX12_gives_2 (by decide) ?_
  refine lv_iload_n hx hb dX12_gives_4 rfl (lv_at hl 2 rfl) ?_
  refine lv_imul hx hb dX12_gives_5 ?_
  refine lv_topi (fun x1 e2 => ?_)
  replace hf := bnd_nm hf e2
  refine lv_istore_n (lv' := [(3, .int x1), (2, .int (0 : Int32)), (0, .ref (xq X 0)), (1, .int a1)]) hx hb dX12_gives_6 rfl hl (by decide) rfl (fun ls hl => ?_)
  exact tX12_gives_7 C hr n st a1 (0 : Int32) x1 _ _ _ hw (lv_sub hl [2, 3, 1, 0] rfl) hf
theorem dX12_law_0 : decode cX12_law 0 = .ok (.aload_n 0, 1) := by decide +kernel
theorem dX12_law_1 : decode cX12_law 1 = .ok (.iconst 0, 1) := by decide +kernel
theorem dX12_law_2 : decode cX12_law 2 = .ok (.invokevirtual 278, 3) := by decide +kernel
theorem dX12_law_5 : decode cX12_law 5 = .ok (.istore_n 1, 1) := by decide +kernel
theorem dX12_law_6 : decode cX12_law 6 = .ok (.iload_n 1, 1) := by decide +kernel
theorem dX12_law_7 : decode cX12_law 7 = .ok (.ifCond .lt 8, 3) := by decide +kernel
theorem dX12_law_10 : decode cX12_law 10 = .ok (.bipush (-100), 2) := by decide +kernel
theorem dX12_law_12 : decode cX12_law 12 = .ok (.iload_n 1, 1) := by decide +kernel
theorem dX12_law_13 : decode cX12_law 13 = .ok (.isub, 1) := by decide +kernel
theorem dX12_law_14 : decode cX12_law 14 = .ok (.ireturn, 1) := by decide +kernel
theorem dX12_law_15 : decode cX12_law 15 = .ok (.aload_n 0, 1) := by decide +kernel
theorem dX12_law_16 : decode cX12_law 16 = .ok (.iconst 1, 1) := by decide +kernel
theorem dX12_law_17 : decode cX12_law 17 = .ok (.putfield 281, 3) := by decide +kernel
theorem dX12_law_20 : decode cX12_law 20 = .ok (.iconst 1, 1) := by decide +kernel
theorem dX12_law_21 : decode cX12_law 21 = .ok (.ireturn, 1) := by decide +kernel
theorem ok_yX12_law : yOk yX12_law 0 := ⟨by decide +kernel, by decide +kernel, by decide +kernel⟩
def fX12_law (n : Nat) (st : St) : Option (Int32 × St) := (fX12_readText n st (0 : Int32)).bind (fun r1 => if r1.1 < 0 then (bnd (sI r1.2 0 37 (1 : Int32)) (fun st4 => some ((1 : Int32), st4))) else (some (((-100 : Int32) - r1.1), r1.2)))
set_option maxHeartbeats 4000000 in
theorem zX12_law (l : Launch) (X : WX) (n : Nat) (st : St)  (R : Int32 × St) (hf : fX12_law n st = some R) : CtI l yX12_law cX12_law 2 .int ({ frames := 66, cells := 0, slots := 0, locals := 1395 }) EM 43 X [.ref (xq X 0)] st R.1 R.2 := by
  refine ct_in (own := RX12) (by decide +kernel) rfl (Nat.le_of_ble_eq_true rfl) (fun p e s m below meth c C hr hw ls hl => ?_)
  obtain ⟨hx, hb, hml, hown, hts⟩ := id C.1
  have hl : lv_has ls 2 [(0, .ref (xq X 0))] := hl
  unfold fX12_law at hf
  refine lv_aload_n hx hb dX12_law_0 rfl (lv_at hl 0 rfl) ?_
  refine lv_iconst (v := 0) hx hb dX12_law_1 (by decide) ?_
  obtain ⟨r1, k2, hf⟩ := bd_some hf
  refine w_goI hw (w_runV (rest := []) C hw (zX12_readText _ _ n st (0 : Int32) r1 k2) (by decide) (EM_0 X _ _) rfl km_X12_278 ki_yX12_readText kv_X12_readText kz_X12 kc_X12_readText rfl ok_yX12_readText ⟨Nat.le_of_ble_eq_true rfl, Nat.le_of_ble_eq_true rfl⟩ rfl rfl rfl rfl hl.1 (Nat.le_of_ble_eq_true rfl) dX12_law_2 ⟨Nat.zero_le _, Nat.zero_le _⟩) (fun H locs hw => ?_)
  refine lv_istore_n (lv' := [(1, .int r1.1), (0, .ref (xq X 0))]) hx hb dX12_law_5 rfl hl (by decide) rfl (fun ls hl => ?_)
  refine lv_iload_n hx hb dX12_law_6 rfl (lv_at hl 0 rfl) ?_
  refine lv_if_lt (tgt := 15) hx hb dX12_law_7 (by decide) (fun c3 => ?_) (fun c3 => ?_)
  · replace hf := ite_t hf c3
    refine lv_aload_n hx hb dX12_law_15 rfl (lv_at hl 1 rfl) ?_
    refine lv_iconst (v := 1) hx hb dX12_law_16 (by decide) ?_
    obtain ⟨st4, es5⟩ : ∃ z : St, z = sI r1.2 0 37 (1 : Int32) := ⟨_, rfl⟩
    replace hf := bnd_nm hf es5
    refine w_putz (T := TX12) C hw (by decide) 37 kf_X12_281 (EM_0 X _ _) rfl inA12 tyX12_ok nmX12 (by decide) rfl rfl rfl rfl (Nat.le_of_ble_eq_true rfl) rfl dX12_law_17 (fun H locs hw => ?_)
    rw [← es5] at hw
    refine lv_iconst (v := 1) hx hb dX12_law_20 (by decide) ?_
    exact w_iret C hw hr (so2 hf).1 (so2 hf).2 dX12_law_21
  · replace hf := ite_f hf c3
    refine lv_bipush (v := -100) hx hb dX12_law_10 (by decide) ?_
    refine lv_iload_n hx hb dX12_law_12 rfl (lv_at hl 0 rfl) ?_
    refine lv_isub hx hb dX12_law_13 ?_
    exact w_iret C hw hr (so2 hf).1 (so2 hf).2 dX12_law_14
theorem dX12_isIn_0 : decode cX12_isIn 0 = .ok (.iload_n 2, 1) := by decide +kernel
theorem dX12_isIn_1 : decode cX12_isIn 1 = .ok (.aload_n 0, 1) := by decide +kernel
theorem dX12_isIn_2 : decode cX12_isIn 2 = .ok (.getfield 7, 3) := by decide +kernel
theorem dX12_isIn_5 : decode cX12_isIn 5 = .ok (.iload_n 1, 1) := by decide +kernel
theorem dX12_isIn_6 : decode cX12_isIn 6 = .ok (.iaload, 1) := by decide +kernel
theorem dX12_isIn_7 : decode cX12_isIn 7 = .ok (.if_icmp .lt 51, 3) := by decide +kernel
theorem dX12_isIn_10 : decode cX12_isIn 10 = .ok (.iload_n 2, 1) := by decide +kernel
theorem dX12_isIn_11 : decode cX12_isIn 11 = .ok (.aload_n 0, 1) := by decide +kernel
theorem dX12_isIn_12 : decode cX12_isIn 12 = .ok (.getfield 7, 3) := by decide +kernel
theorem dX12_isIn_15 : decode cX12_isIn 15 = .ok (.iload_n 1, 1) := by decide +kernel
theorem dX12_isIn_16 : decode cX12_isIn 16 = .ok (.iaload, 1) := by decide +kernel
theorem dX12_isIn_17 : decode cX12_isIn 17 = .ok (.aload_n 0, 1) := by decide +kernel
theorem dX12_isIn_18 : decode cX12_isIn 18 = .ok (.getfield 16, 3) := by decide +kernel
theorem dX12_isIn_21 : decode cX12_isIn 21 = .ok (.iload_n 1, 1) := by decide +kernel
theorem dX12_isIn_22 : decode cX12_isIn 22 = .ok (.iaload, 1) := by decide +kernel
theorem dX12_isIn_23 : decode cX12_isIn 23 = .ok (.iadd, 1) := by decide +kernel
theorem dX12_isIn_24 : decode cX12_isIn 24 = .ok (.if_icmp .ge 34, 3) := by decide +kernel
theorem dX12_isIn_27 : decode cX12_isIn 27 = .ok (.iload_n 3, 1) := by decide +kernel
theorem dX12_isIn_28 : decode cX12_isIn 28 = .ok (.aload_n 0, 1) := by decide +kernel
theorem dX12_isIn_29 : decode cX12_isIn 29 = .ok (.getfield 13, 3) := by decide +kernel
theorem dX12_isIn_32 : decode cX12_isIn 32 = .ok (.iload_n 1, 1) := by decide +kernel
theorem dX12_isIn_33 : decode cX12_isIn 33 = .ok (.iaload, 1) := by decide +kernel
theorem dX12_isIn_34 : decode cX12_isIn 34 = .ok (.if_icmp .lt 24, 3) := by decide +kernel
theorem dX12_isIn_37 : decode cX12_isIn 37 = .ok (.iload_n 3, 1) := by decide +kernel
theorem dX12_isIn_38 : decode cX12_isIn 38 = .ok (.aload_n 0, 1) := by decide +kernel
theorem dX12_isIn_39 : decode cX12_isIn 39 = .ok (.getfield 13, 3) := by decide +kernel
theorem dX12_isIn_42 : decode cX12_isIn 42 = .ok (.iload_n 1, 1) := by decide +kernel
theorem dX12_isIn_43 : decode cX12_isIn 43 = .ok (.iaload, 1) := by decide +kernel
theorem dX12_isIn_44 : decode cX12_isIn 44 = .ok (.aload_n 0, 1) := by decide +kernel
theorem dX12_isIn_45 : decode cX12_isIn 45 = .ok (.getfield 19, 3) := by decide +kernel
theorem dX12_isIn_48 : decode cX12_isIn 48 = .ok (.iload_n 1, 1) := by decide +kernel
theorem dX12_isIn_49 : decode cX12_isIn 49 = .ok (.iaload, 1) := by decide +kernel
theorem dX12_isIn_50 : decode cX12_isIn 50 = .ok (.iadd, 1) := by decide +kernel
theorem dX12_isIn_51 : decode cX12_isIn 51 = .ok (.if_icmp .ge 7, 3) := by decide +kernel
theorem dX12_isIn_54 : decode cX12_isIn 54 = .ok (.iconst 1, 1) := by decide +kernel
theorem dX12_isIn_55 : decode cX12_isIn 55 = .ok (.goto 4, 3) := by decide +kernel
theorem dX12_isIn_58 : decode cX12_isIn 58 = .ok (.iconst 0, 1) := by decide +kernel
theorem dX12_isIn_59 : decode cX12_isIn 59 = .ok (.ireturn, 1) := by decide +kernel
theorem ok_yX12_isIn : yOk yX12_isIn 3 := ⟨by decide +kernel, by decide +kernel, by decide +kernel⟩
def fX12_isIn (st : St) (a1 : Int32) (a2 : Int32) (a3 : Int32) : Option (Bool) := gd (inB a1 8) (if a2 < gI st 1 a1.toNatClampNeg then (some false) else (gd (inB a1 8) (gd (inB a1 8) (if (gI st 1 a1.toNatClampNeg) + (gI st 3 a1.toNatClampNeg) ≤ a2 then (some false) else (gd (inB a1 8) (if a3 < gI st 2 a1.toNatClampNeg then (some false) else (gd (inB a1 8) (gd (inB a1 8) (if (gI st 2 a1.toNatClampNeg) + (gI st 4 a1.toNatClampNeg) ≤ a3 then (some false) else (some true))))))))))
set_option maxHeartbeats 4000000 in
theorem zX12_isIn (l : Launch) (X : WX) (st : St) (a1 : Int32) (a2 : Int32) (a3 : Int32) (R : Bool) (hf : fX12_isIn st a1 a2 a3 = some R) : CtI l yX12_isIn cX12_isIn 4 .boolean ({ frames := 0, cells := 0, slots := 0, locals := 0 }) EM 43 X [.ref (xq X 0), .int a1, .int a2, .int a3] st (bI R) st := by
  refine ct_in (own := RX12) (by decide +kernel) rfl (Nat.le_of_ble_eq_true rfl) (fun p e s m below meth c C hr hw ls hl => ?_)
  obtain ⟨hx, hb, hml, hown, hts⟩ := id C.1
  have hl : lv_has ls 4 [(0, .ref (xq X 0)), (1, .int a1), (2, .int a2), (3, .int a3)] := hl
  unfold fX12_isIn at hf
  refine lv_iload_n hx hb dX12_isIn_0 rfl (lv_at hl 2 rfl) ?_
  refine lv_aload_n hx hb dX12_isIn_1 rfl (lv_at hl 0 rfl) ?_
  refine w_get (T := TX12) C hw (by decide) 2 kf_X12_7 (EM_0 X _ _) rfl inA12 (by decide) rfl dX12_isIn_2 ?_
  refine lv_iload_n hx hb dX12_isIn_5 rfl (lv_at hl 1 rfl) ?_
  obtain ⟨h1, hf⟩ := gd_some hf
  refine w_iald C hw (by decide) (EM_1 X _ _) h1 rfl dX12_isIn_6 ?_
  refine lv_icmp_lt (tgt := 58) hx hb dX12_isIn_7 (by decide) (fun c2 => ?_) (fun c2 => ?_)
  · replace hf := ite_t hf c2
    refine lv_iconst (v := 0) hx hb dX12_isIn_58 (by decide) ?_
    exact w_zret (b := false) C hw hr rfl (Option.some.inj hf) rfl dX12_isIn_59
  · replace hf := ite_f hf c2
    refine lv_iload_n hx hb dX12_isIn_10 rfl (lv_at hl 2 rfl) ?_
    refine lv_aload_n hx hb dX12_isIn_11 rfl (lv_at hl 0 rfl) ?_
    refine w_get (T := TX12) C hw (by decide) 2 kf_X12_7 (EM_0 X _ _) rfl inA12 (by decide) rfl dX12_isIn_12 ?_
    refine lv_iload_n hx hb dX12_isIn_15 rfl (lv_at hl 1 rfl) ?_
    obtain ⟨h3, hf⟩ := gd_some hf
    refine w_iald C hw (by decide) (EM_1 X _ _) h3 rfl dX12_isIn_16 ?_
    refine lv_aload_n hx hb dX12_isIn_17 rfl (lv_at hl 0 rfl) ?_
    refine w_get (T := TX12) C hw (by decide) 4 kf_X12_16 (EM_0 X _ _) rfl inA12 (by decide) rfl dX12_isIn_18 ?_
    refine lv_iload_n hx hb dX12_isIn_21 rfl (lv_at hl 1 rfl) ?_
    obtain ⟨h4, hf⟩ := gd_some hf
    refine w_iald C hw (by decide) (EM_3 X _ _) h4 rfl dX12_isIn_22 ?_
    refine lv_iadd hx hb dX12_isIn_23 ?_
    refine lv_icmp_ge (tgt := 58) hx hb dX12_isIn_24 (by decide) (fun c5 => ?_) (fun c5 => ?_)
    · replace hf := ite_t hf c5
      refine lv_iconst (v := 0) hx hb dX12_isIn_58 (by decide) ?_
      exact w_zret (b := false) C hw hr rfl (Option.some.inj hf) rfl dX12_isIn_59
    · replace hf := ite_f hf c5
      refine lv_iload_n hx hb dX12_isIn_27 rfl (lv_at hl 3 rfl) ?_
      refine lv_aload_n hx hb dX12_isIn_28 rfl (lv_at hl 0 rfl) ?_
      refine w_get (T := TX12) C hw (by decide) 3 kf_X12_13 (EM_0 X _ _) rfl inA12 (by decide) rfl dX12_isIn_29 ?_
      refine lv_iload_n hx hb dX12_isIn_32 rfl (lv_at hl 1 rfl) ?_
      obtain ⟨h6, hf⟩ := gd_some hf
      refine w_iald C hw (by decide) (EM_2 X _ _) h6 rfl dX12_isIn_33 ?_
      refine lv_icmp_lt (tgt := 58) hx hb dX12_isIn_34 (by decide) (fun c7 => ?_) (fun c7 => ?_)
      · replace hf := ite_t hf c7
        refine lv_iconst (v := 0) hx hb dX12_isIn_58 (by decide) ?_
        exact w_zret (b := false) C hw hr rfl (Option.some.inj hf) rfl dX12_isIn_59
      · replace hf := ite_f hf c7
        refine lv_iload_n hx hb dX12_isIn_37 rfl (lv_at hl 3 rfl) ?_
        refine lv_aload_n hx hb dX12_isIn_38 rfl (lv_at hl 0 rfl) ?_
        refine w_get (T := TX12) C hw (by decide) 3 kf_X12_13 (EM_0 X _ _) rfl inA12 (by decide) rfl dX12_isIn_39 ?_
        refine lv_iload_n hx hb dX12_isIn_42 rfl (lv_at hl 1 rfl) ?_
        obtain ⟨h8, hf⟩ := gd_some hf
        refine w_iald C hw (by decide) (EM_2 X _ _) h8 rfl dX12_isIn_43 ?_
        refine lv_aload_n hx hb dX12_isIn_44 rfl (lv_at hl 0 rfl) ?_
        refine w_get (T := TX12) C hw (by decide) 5 kf_X12_19 (EM_0 X _ _) rfl inA12 (by decide) rfl dX12_isIn_45 ?_
        refine lv_iload_n hx hb dX12_isIn_48 rfl (lv_at hl 1 rfl) ?_
        obtain ⟨h9, hf⟩ := gd_some hf
        refine w_iald C hw (by decide) (EM_4 X _ _) h9 rfl dX12_isIn_49 ?_
        refine lv_iadd hx hb dX12_isIn_50 ?_
        refine lv_icmp_ge (tgt := 58) hx hb dX12_isIn_51 (by decide) (fun c10 => ?_) (fun c10 => ?_)
        · replace hf := ite_t hf c10
          refine lv_iconst (v := 0) hx hb dX12_isIn_58 (by decide) ?_
          exact w_zret (b := false) C hw hr rfl (Option.some.inj hf) rfl dX12_isIn_59
        · replace hf := ite_f hf c10
          refine lv_iconst (v := 1) hx hb dX12_isIn_54 (by decide) ?_
          refine lv_goto (tgt := 59) hx hb dX12_isIn_55 (by decide) ?_
          exact w_zret (b := true) C hw hr rfl (Option.some.inj hf) rfl dX12_isIn_59
theorem dX12_fieldAt_0 : decode cX12_fieldAt 0 = .ok (.iconst 0, 1) := by decide +kernel
theorem dX12_fieldAt_1 : decode cX12_fieldAt 1 = .ok (.istore_n 3, 1) := by decide +kernel
theorem dX12_fieldAt_2 : decode cX12_fieldAt 2 = .ok (.iload_n 3, 1) := by decide +kernel
theorem dX12_fieldAt_3 : decode cX12_fieldAt 3 = .ok (.aload_n 0, 1) := by decide +kernel
theorem dX12_fieldAt_4 : decode cX12_fieldAt 4 = .ok (.getfield 144, 3) := by decide +kernel
theorem dX12_fieldAt_7 : decode cX12_fieldAt 7 = .ok (.if_icmp .ge 21, 3) := by decide +kernel
theorem dX12_fieldAt_10 : decode cX12_fieldAt 10 = .ok (.aload_n 0, 1) := by decide +kernel
theorem dX12_fieldAt_11 : decode cX12_fieldAt 11 = .ok (.iload_n 3, 1) := by decide +kernel
theorem dX12_fieldAt_12 : decode cX12_fieldAt 12 = .ok (.iload_n 1, 1) := by decide +kernel
theorem dX12_fieldAt_13 : decode cX12_fieldAt 13 = .ok (.iload_n 2, 1) := by decide +kernel
theorem dX12_fieldAt_14 : decode cX12_fieldAt 14 = .ok (.invokevirtual 285, 3) := by decide +kernel
theorem dX12_fieldAt_17 : decode cX12_fieldAt 17 = .ok (.ifCond .eq 5, 3) := by decide +kernel
theorem dX12_fieldAt_20 : decode cX12_fieldAt 20 = .ok (.iload_n 3, 1) := by decide +kernel
theorem dX12_fieldAt_21 : decode cX12_fieldAt 21 = .ok (.ireturn, 1) := by decide +kernel
theorem dX12_fieldAt_22 : decode cX12_fieldAt 22 = .ok (.iinc 3 1, 3) := by decide +kernel
theorem dX12_fieldAt_25 : decode cX12_fieldAt 25 = .ok (.goto (-23), 3) := by decide +kernel
theorem dX12_fieldAt_28 : decode cX12_fieldAt 28 = .ok (.bipush (-2), 2) := by decide +kernel
theorem dX12_fieldAt_30 : decode cX12_fieldAt 30 = .ok (.ireturn, 1) := by decide +kernel
theorem ok_yX12_fieldAt : yOk yX12_fieldAt 2 := ⟨by decide +kernel, by decide +kernel, by decide +kernel⟩
def fX12_fieldAt_2 (n : Nat) (st : St) : Nat → Int32 → Int32 → Int32 → Option (Int32)
  | 0, _, _, _ => none
  | k + 1, v1, v2, v3 => if gI st 0 1 ≤ v3 then (some (-2 : Int32)) else ((fX12_isIn st v3 v1 v2).bind (fun r2 => if bI r2 = 0 then (bnd (v3 + (1 : Int32)) (fun x5 => fX12_fieldAt_2 n st k v1 v2 x5)) else (some v3)))
set_option maxHeartbeats 4000000 in
theorem tX12_fieldAt_2 {p : Program} {l : Launch} {e : Env} {s : State} {m : MethodId} {args : Array Value} {below : List Frame} {meth : Method} {c : Code} {X : WX} (C : Amb 43 X p s m args meth c cX12_fieldAt 4 RX12) (hr : meth.sig.returnType = some .int) {R : Int32} {n : Nat} {st : St} : ∀ (k : Nat) (v1 : Int32) (v2 : Int32) (v3 : Int32) (H : Heap) (locs : List Loc) (ls : Array Slot), Wd EM 43 X s.heap st H locs → lv_has ls 4 [(0, .ref (xq X 0)), (1, .int v1), (2, .int v2), (3, .int v3)] → fX12_fieldAt_2 n st k v1 v2 v3 = some R → W p l e { frames := 1, cells := 0, slots := 0, locals := 23 } s m args below meth c H locs 0 0 (QI EM 43 X R st below args s) (F0 m 2 ls []) := by
  obtain ⟨hx, hb, hml, hown, hts⟩ := id C.1
  intro k
  induction k with
  | zero => intro v1 v2 v3 H locs ls  hw hl hf; exact absurd (show none = some R from hf) (fun z => by cases z)
  | succ k ih =>
    intro v1 v2 v3 H locs ls  hw hl hf
    rw [fX12_fieldAt_2] at hf
    refine lv_iload_n hx hb dX12_fieldAt_2 rfl (lv_at hl 3 rfl) ?_
    refine lv_aload_n hx hb dX12_fieldAt_3 rfl (lv_at hl 0 rfl) ?_
    refine w_get (T := TX12) C hw (by decide) 1 kf_X12_144 (EM_0 X _ _) rfl inA12 (by decide) rfl dX12_fieldAt_4 ?_
    refine lv_icmp_ge (tgt := 28) hx hb dX12_fieldAt_7 (by decide) (fun c1 => ?_) (fun c1 => ?_)
    · replace hf := ite_t hf c1
      refine lv_bipush (v := -2) hx hb dX12_fieldAt_28 (by decide) ?_
      exact w_iret C hw hr (Option.some.inj hf) rfl dX12_fieldAt_30
    · replace hf := ite_f hf c1
      refine lv_aload_n hx hb dX12_fieldAt_10 rfl (lv_at hl 0 rfl) ?_
      refine lv_iload_n hx hb dX12_fieldAt_11 rfl (lv_at hl 3 rfl) ?_
      refine lv_iload_n hx hb dX12_fieldAt_12 rfl (lv_at hl 1 rfl) ?_
      refine lv_iload_n hx hb dX12_fieldAt_13 rfl (lv_at hl 2 rfl) ?_
      obtain ⟨r2, k3, hf⟩ := bd_some hf
      refine w_goI hw (w_runV (rest := []) C hw (zX12_isIn _ _ st v3 v1 v2 r2 k3) (by decide) (EM_0 X _ _) rfl km_X12_285 ki_yX12_isIn kv_X12_isIn kz_X12 kc_X12_isIn rfl ok_yX12_isIn ⟨Nat.le_of_ble_eq_true rfl, Nat.le_of_ble_eq_true rfl⟩ rfl rfl rfl rfl hl.1 (Nat.le_of_ble_eq_true rfl) dX12_fieldAt_14 ⟨Nat.zero_le _, Nat.zero_le _⟩) (fun H locs hw => ?_)
      refine lv_if_eq (tgt := 22) hx hb dX12_fieldAt_17 (by decide) (fun c4 => ?_) (fun c4 => ?_)
      · replace hf := ite_t hf c4
        obtain ⟨x5, e6⟩ : ∃ z : Int32, z = v3 + (1 : Int32) := ⟨_, rfl⟩
        replace hf := bnd_nm hf e6
        refine lv_iinc (v := x5) (lv' := [(3, .int x5), (0, .ref (xq X 0)), (1, .int v1), (2, .int v2)]) hx hb dX12_fieldAt_22 hl (k := 3) rfl (by rw [e6]; rfl) (by decide) rfl (fun ls hl => ?_)
        refine lv_goto (tgt := 2) hx hb dX12_fieldAt_25 (by decide) ?_
        exact ih v1 v2 x5 _ _ _ hw (lv_sub hl [1, 2, 3, 0] rfl) hf
      · replace hf := ite_f hf c4
        refine lv_iload_n hx hb dX12_fieldAt_20 rfl (lv_at hl 3 rfl) ?_
        exact w_iret C hw hr (Option.some.inj hf) rfl dX12_fieldAt_21
def fX12_fieldAt (n : Nat) (st : St) (a1 : Int32) (a2 : Int32) : Option (Int32) := fX12_fieldAt_2 n st n a1 a2 (0 : Int32)
set_option maxHeartbeats 4000000 in
theorem zX12_fieldAt (l : Launch) (X : WX) (n : Nat) (st : St) (a1 : Int32) (a2 : Int32) (R : Int32) (hf : fX12_fieldAt n st a1 a2 = some R) : CtI l yX12_fieldAt cX12_fieldAt 4 .int ({ frames := 1, cells := 0, slots := 0, locals := 23 }) EM 43 X [.ref (xq X 0), .int a1, .int a2] st R st := by
  refine ct_in (own := RX12) (by decide +kernel) rfl (Nat.le_of_ble_eq_true rfl) (fun p e s m below meth c C hr hw ls hl => ?_)
  obtain ⟨hx, hb, hml, hown, hts⟩ := id C.1
  have hl : lv_has ls 4 [(0, .ref (xq X 0)), (1, .int a1), (2, .int a2)] := hl
  unfold fX12_fieldAt at hf
  refine lv_iconst (v := 0) hx hb dX12_fieldAt_0 (by decide) ?_
  refine lv_istore_n (lv' := [(3, .int (0 : Int32)), (0, .ref (xq X 0)), (1, .int a1), (2, .int a2)]) hx hb dX12_fieldAt_1 rfl hl (by decide) rfl (fun ls hl => ?_)
  exact tX12_fieldAt_2 C hr n a1 a2 (0 : Int32) _ _ _ hw (lv_sub hl [1, 2, 3, 0] rfl) hf
theorem dX12_at_0 : decode cX12_at 0 = .ok (.iload_n 1, 1) := by decide +kernel
theorem dX12_at_1 : decode cX12_at 1 = .ok (.iconst 0, 1) := by decide +kernel
theorem dX12_at_2 : decode cX12_at 2 = .ok (.sipush 399, 3) := by decide +kernel
theorem dX12_at_5 : decode cX12_at 5 = .ok (.invokestatic 147, 3) := by decide +kernel
theorem dX12_at_8 : decode cX12_at 8 = .ok (.ifCond .eq 18, 3) := by decide +kernel
theorem dX12_at_11 : decode cX12_at 11 = .ok (.aload_n 0, 1) := by decide +kernel
theorem dX12_at_12 : decode cX12_at 12 = .ok (.iload_n 1, 1) := by decide +kernel
theorem dX12_at_13 : decode cX12_at 13 = .ok (.bipush 20, 2) := by decide +kernel
theorem dX12_at_15 : decode cX12_at 15 = .ok (.irem, 1) := by decide +kernel
theorem dX12_at_16 : decode cX12_at 16 = .ok (.iload_n 1, 1) := by decide +kernel
theorem dX12_at_17 : decode cX12_at 17 = .ok (.bipush 20, 2) := by decide +kernel
theorem dX12_at_19 : decode cX12_at 19 = .ok (.idiv, 1) := by decide +kernel
theorem dX12_at_20 : decode cX12_at 20 = .ok (.invokevirtual 288, 3) := by decide +kernel
theorem dX12_at_23 : decode cX12_at 23 = .ok (.goto 4, 3) := by decide +kernel
theorem dX12_at_26 : decode cX12_at 26 = .ok (.iconst (-1), 1) := by decide +kernel
theorem dX12_at_27 : decode cX12_at 27 = .ok (.ireturn, 1) := by decide +kernel
theorem ok_yX12_at : yOk yX12_at 1 := ⟨by decide +kernel, by decide +kernel, by decide +kernel⟩
def fX12_at (n : Nat) (st : St) (a1 : Int32) : Option (Int32) := if bI (fX12_in a1 (0 : Int32) (399 : Int32)) = 0 then (some (-1 : Int32)) else ((fX12_fieldAt n st (rmI a1 (20 : Int32)) (a1 / (20 : Int32))).bind (fun r2 => some r2))
set_option maxHeartbeats 4000000 in
theorem zX12_at (l : Launch) (X : WX) (n : Nat) (st : St) (a1 : Int32) (R : Int32) (hf : fX12_at n st a1 = some R) : CtI l yX12_at cX12_at 2 .int ({ frames := 2, cells := 0, slots := 0, locals := 46 }) EM 43 X [.ref (xq X 0), .int a1] st R st := by
  refine ct_in (own := RX12) (by decide +kernel) rfl (Nat.le_of_ble_eq_true rfl) (fun p e s m below meth c C hr hw ls hl => ?_)
  obtain ⟨hx, hb, hml, hown, hts⟩ := id C.1
  have hl : lv_has ls 2 [(0, .ref (xq X 0)), (1, .int a1)] := hl
  unfold fX12_at at hf
  refine lv_iload_n hx hb dX12_at_0 rfl (lv_at hl 1 rfl) ?_
  refine lv_iconst (v := 0) hx hb dX12_at_1 (by decide) ?_
  refine lv_sipush (v := 399) hx hb dX12_at_2 (by decide) ?_
  refine w_goI hw (w_runS (rest := []) C hw (zX12_in _ _ st a1 (0 : Int32) (399 : Int32)) km_X12_147 kt_yX12_in kz_X12 kc_X12_in ok_yX12_in ⟨Nat.le_of_ble_eq_true rfl, Nat.le_of_ble_eq_true rfl⟩ rfl rfl rfl rfl hl.1 (Nat.le_of_ble_eq_true rfl) dX12_at_5 ⟨Nat.zero_le _, Nat.zero_le _⟩) (fun H locs hw => ?_)
  refine lv_if_eq (tgt := 26) hx hb dX12_at_8 (by decide) (fun c1 => ?_) (fun c1 => ?_)
  · replace hf := ite_t hf c1
    refine lv_iconst (v := -1) hx hb dX12_at_26 (by decide) ?_
    exact w_iret C hw hr (Option.some.inj hf) rfl dX12_at_27
  · replace hf := ite_f hf c1
    refine lv_aload_n hx hb dX12_at_11 rfl (lv_at hl 0 rfl) ?_
    refine lv_iload_n hx hb dX12_at_12 rfl (lv_at hl 1 rfl) ?_
    refine lv_bipush (v := 20) hx hb dX12_at_13 (by decide) ?_
    refine w_irem C (by decide) dX12_at_15 ?_
    refine lv_iload_n hx hb dX12_at_16 rfl (lv_at hl 1 rfl) ?_
    refine lv_bipush (v := 20) hx hb dX12_at_17 (by decide) ?_
    refine lv_idiv hx hb dX12_at_19 (by decide) ?_
    obtain ⟨r2, k3, hf⟩ := bd_some hf
    refine w_goI hw (w_runV (rest := []) C hw (zX12_fieldAt _ _ n st (rmI a1 (20 : Int32)) (a1 / (20 : Int32)) r2 k3) (by decide) (EM_0 X _ _) rfl km_X12_288 ki_yX12_fieldAt kv_X12_fieldAt kz_X12 kc_X12_fieldAt rfl ok_yX12_fieldAt ⟨Nat.le_of_ble_eq_true rfl, Nat.le_of_ble_eq_true rfl⟩ rfl rfl rfl rfl hl.1 (Nat.le_of_ble_eq_true rfl) dX12_at_20 ⟨Nat.zero_le _, Nat.zero_le _⟩) (fun H locs hw => ?_)
    refine lv_goto (tgt := 27) hx hb dX12_at_23 (by decide) ?_
    exact w_iret C hw hr (Option.some.inj hf) rfl dX12_at_27
