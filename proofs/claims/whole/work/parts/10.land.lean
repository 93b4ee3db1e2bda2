theorem dX3_addField_0 : decode cX3_addField 0 = .ok (.aload_n 0, 1) := by decide +kernel
theorem dX3_addField_1 : decode cX3_addField 1 = .ok (.getfield 16, 3) := by decide +kernel
theorem dX3_addField_4 : decode cX3_addField 4 = .ok (.istore_n 3, 1) := by decide +kernel
theorem dX3_addField_5 : decode cX3_addField 5 = .ok (.aload_n 0, 1) := by decide +kernel
theorem dX3_addField_6 : decode cX3_addField 6 = .ok (.dup, 1) := by decide +kernel
theorem dX3_addField_7 : decode cX3_addField 7 = .ok (.getfield 16, 3) := by decide +kernel
theorem dX3_addField_10 : decode cX3_addField 10 = .ok (.iconst 1, 1) := by decide +kernel
theorem dX3_addField_11 : decode cX3_addField 11 = .ok (.iadd, 1) := by decide +kernel
theorem dX3_addField_12 : decode cX3_addField 12 = .ok (.putfield 16, 3) := by decide +kernel
theorem dX3_addField_15 : decode cX3_addField 15 = .ok (.aload_n 0, 1) := by decide +kernel
theorem dX3_addField_16 : decode cX3_addField 16 = .ok (.getfield 11, 3) := by decide +kernel
theorem dX3_addField_19 : decode cX3_addField 19 = .ok (.iconst 0, 1) := by decide +kernel
theorem dX3_addField_20 : decode cX3_addField 20 = .ok (.aaload, 1) := by decide +kernel
theorem dX3_addField_21 : decode cX3_addField 21 = .ok (.iload_n 3, 1) := by decide +kernel
theorem dX3_addField_22 : decode cX3_addField 22 = .ok (.iload_n 1, 1) := by decide +kernel
theorem dX3_addField_23 : decode cX3_addField 23 = .ok (.bipush 20, 2) := by decide +kernel
theorem dX3_addField_25 : decode cX3_addField 25 = .ok (.irem, 1) := by decide +kernel
theorem dX3_addField_26 : decode cX3_addField 26 = .ok (.iastore, 1) := by decide +kernel
theorem dX3_addField_27 : decode cX3_addField 27 = .ok (.aload_n 0, 1) := by decide +kernel
theorem dX3_addField_28 : decode cX3_addField 28 = .ok (.getfield 11, 3) := by decide +kernel
theorem dX3_addField_31 : decode cX3_addField 31 = .ok (.iconst 1, 1) := by decide +kernel
theorem dX3_addField_32 : decode cX3_addField 32 = .ok (.aaload, 1) := by decide +kernel
theorem dX3_addField_33 : decode cX3_addField 33 = .ok (.iload_n 3, 1) := by decide +kernel
theorem dX3_addField_34 : decode cX3_addField 34 = .ok (.iload_n 1, 1) := by decide +kernel
theorem dX3_addField_35 : decode cX3_addField 35 = .ok (.bipush 20, 2) := by decide +kernel
theorem dX3_addField_37 : decode cX3_addField 37 = .ok (.idiv, 1) := by decide +kernel
theorem dX3_addField_38 : decode cX3_addField 38 = .ok (.iastore, 1) := by decide +kernel
theorem dX3_addField_39 : decode cX3_addField 39 = .ok (.aload_n 0, 1) := by decide +kernel
theorem dX3_addField_40 : decode cX3_addField 40 = .ok (.getfield 11, 3) := by decide +kernel
theorem dX3_addField_43 : decode cX3_addField 43 = .ok (.iconst 2, 1) := by decide +kernel
theorem dX3_addField_44 : decode cX3_addField 44 = .ok (.aaload, 1) := by decide +kernel
theorem dX3_addField_45 : decode cX3_addField 45 = .ok (.iload_n 3, 1) := by decide +kernel
theorem dX3_addField_46 : decode cX3_addField 46 = .ok (.iload_n 2, 1) := by decide +kernel
theorem dX3_addField_47 : decode cX3_addField 47 = .ok (.bipush 100, 2) := by decide +kernel
theorem dX3_addField_49 : decode cX3_addField 49 = .ok (.idiv, 1) := by decide +kernel
theorem dX3_addField_50 : decode cX3_addField 50 = .ok (.iastore, 1) := by decide +kernel
theorem dX3_addField_51 : decode cX3_addField 51 = .ok (.aload_n 0, 1) := by decide +kernel
theorem dX3_addField_52 : decode cX3_addField 52 = .ok (.getfield 11, 3) := by decide +kernel
theorem dX3_addField_55 : decode cX3_addField 55 = .ok (.iconst 3, 1) := by decide +kernel
theorem dX3_addField_56 : decode cX3_addField 56 = .ok (.aaload, 1) := by decide +kernel
theorem dX3_addField_57 : decode cX3_addField 57 = .ok (.iload_n 3, 1) := by decide +kernel
theorem dX3_addField_58 : decode cX3_addField 58 = .ok (.iload_n 2, 1) := by decide +kernel
theorem dX3_addField_59 : decode cX3_addField 59 = .ok (.bipush 100, 2) := by decide +kernel
theorem dX3_addField_61 : decode cX3_addField 61 = .ok (.irem, 1) := by decide +kernel
theorem dX3_addField_62 : decode cX3_addField 62 = .ok (.iastore, 1) := by decide +kernel
theorem dX3_addField_63 : decode cX3_addField 63 = .ok (.aload_n 0, 1) := by decide +kernel
theorem dX3_addField_64 : decode cX3_addField 64 = .ok (.getfield 11, 3) := by decide +kernel
theorem dX3_addField_67 : decode cX3_addField 67 = .ok (.iconst 4, 1) := by decide +kernel
theorem dX3_addField_68 : decode cX3_addField 68 = .ok (.aaload, 1) := by decide +kernel
theorem dX3_addField_69 : decode cX3_addField 69 = .ok (.iload_n 3, 1) := by decide +kernel
theorem dX3_addField_70 : decode cX3_addField 70 = .ok (.iconst (-1), 1) := by decide +kernel
theorem dX3_addField_71 : decode cX3_addField 71 = .ok (.iastore, 1) := by decide +kernel
theorem dX3_addField_72 : decode cX3_addField 72 = .ok (.aload_n 0, 1) := by decide +kernel
theorem dX3_addField_73 : decode cX3_addField 73 = .ok (.getfield 11, 3) := by decide +kernel
theorem dX3_addField_76 : decode cX3_addField 76 = .ok (.iconst 5, 1) := by decide +kernel
theorem dX3_addField_77 : decode cX3_addField 77 = .ok (.aaload, 1) := by decide +kernel
theorem dX3_addField_78 : decode cX3_addField 78 = .ok (.iload_n 3, 1) := by decide +kernel
theorem dX3_addField_79 : decode cX3_addField 79 = .ok (.bipush 10, 2) := by decide +kernel
theorem dX3_addField_81 : decode cX3_addField 81 = .ok (.iastore, 1) := by decide +kernel
theorem dX3_addField_82 : decode cX3_addField 82 = .ok (.iload_n 3, 1) := by decide +kernel
theorem dX3_addField_83 : decode cX3_addField 83 = .ok (.ireturn, 1) := by decide +kernel
theorem ok_yX3_addField : yOk yX3_addField 2 := ⟨by decide +kernel, by decide +kernel, by decide +kernel⟩
def fX3_addField (st : St) (a1 : Int32) (a2 : Int32) : Option (Int32 × St) := bnd (gI st 1 1) (fun x1 => bnd (sI st 1 1 ((gI st 1 1) + (1 : Int32))) (fun st3 => gd (inB x1 13) (bnd (sI st3 3 x1.toNatClampNeg (rmI a1 (20 : Int32))) (fun st6 => gd (inB x1 13) (bnd (sI st6 4 x1.toNatClampNeg (a1 / (20 : Int32))) (fun st9 => gd (inB x1 13) (bnd (sI st9 5 x1.toNatClampNeg (a2 / (100 : Int32))) (fun st12 => gd (inB x1 13) (bnd (sI st12 6 x1.toNatClampNeg (rmI a2 (100 : Int32))) (fun st15 => gd (inB x1 13) (bnd (sI st15 7 x1.toNatClampNeg (-1 : Int32)) (fun st18 => gd (inB x1 13) (bnd (sI st18 8 x1.toNatClampNeg (10 : Int32)) (fun st21 => some (x1, st21)))))))))))))))
set_option maxHeartbeats 4000000 in
theorem zX3_addField (l : Launch) (X : WX) (st : St) (a1 : Int32) (a2 : Int32) (R : Int32 × St) (hf : fX3_addField st a1 a2 = some R) : CtI l yX3_addField cX3_addField 4 .int ({ frames := 0, cells := 0, slots := 0, locals := 0 }) EC 65 X [.ref (xq X 1), .int a1, .int a2] st R.1 R.2 := by
  refine ct_in (own := RX3) (by decide +kernel) rfl (Nat.le_of_ble_eq_true rfl) (fun p e s m below meth c C hr hw ls hl => ?_)
  obtain ⟨hx, hb, hml, hown, hts⟩ := id C.1
  have hl : lv_has ls 4 [(0, .ref (xq X 1)), (1, .int a1), (2, .int a2)] := hl
  unfold fX3_addField at hf
  refine lv_aload_n hx hb dX3_addField_0 rfl (lv_at hl 0 rfl) ?_
  refine w_get (T := TX3) C hw (by decide) 1 kf_X3_16 (EC_1 X _ _) rfl inA3 (by decide) rfl dX3_addField_1 ?_
  refine lv_topi (fun x1 e2 => ?_)
  replace hf := bnd_nm hf e2
  refine lv_istore_n (lv' := [(3, .int x1), (0, .ref (xq X 1)), (1, .int a1), (2, .int a2)]) hx hb dX3_addField_4 rfl hl (by decide) rfl (fun ls hl => ?_)
  refine lv_aload_n hx hb dX3_addField_5 rfl (lv_at hl 1 rfl) ?_
  refine lv_dup hx hb dX3_addField_6 rfl ?_
  refine w_get (T := TX3) C hw (by decide) 1 kf_X3_16 (EC_1 X _ _) rfl inA3 (by decide) rfl dX3_addField_7 ?_
  refine lv_iconst (v := 1) hx hb dX3_addField_10 (by decide) ?_
  refine lv_iadd hx hb dX3_addField_11 ?_
  obtain ⟨st3, es4⟩ : ∃ z : St, z = sI st 1 1 ((gI st 1 1) + (1 : Int32)) := ⟨_, rfl⟩
  replace hf := bnd_nm hf es4
  refine w_puti (T := TX3) C hw (by decide) 1 kf_X3_16 (EC_1 X _ _) rfl inA3 tyX3_ok nmX3 (by decide) rfl rfl (Nat.le_of_ble_eq_true rfl) rfl dX3_addField_12 (fun H locs hw => ?_)
  rw [← es4] at hw
  refine lv_aload_n hx hb dX3_addField_15 rfl (lv_at hl 1 rfl) ?_
  refine w_get (T := TX3) C hw (by decide) 0 kf_X3_11 (EC_1 X _ _) rfl inA3 (by decide) rfl dX3_addField_16 ?_
  refine lv_iconst (v := 0) hx hb dX3_addField_19 (by decide) ?_
  refine w_aald (k' := 3) C hw (by decide) (EC_2 X _ _) rfl rfl (by decide) rfl dX3_addField_20 ?_
  refine lv_iload_n hx hb dX3_addField_21 rfl (lv_at hl 0 rfl) ?_
  refine lv_iload_n hx hb dX3_addField_22 rfl (lv_at hl 2 rfl) ?_
  refine lv_bipush (v := 20) hx hb dX3_addField_23 (by decide) ?_
  refine w_irem C (by decide) dX3_addField_25 ?_
  obtain ⟨h5, hf⟩ := gd_some hf
  obtain ⟨st6, es7⟩ : ∃ z : St, z = sI st3 3 x1.toNatClampNeg (rmI a1 (20 : Int32)) := ⟨_, rfl⟩
  replace hf := bnd_nm hf es7
  refine w_iast C hw (by decide) (fun f9 => EC_3 X f9 _) h5 rfl dX3_addField_26 (fun H locs hw => ?_)
  rw [← es7] at hw
  refine lv_aload_n hx hb dX3_addField_27 rfl (lv_at hl 1 rfl) ?_
  refine w_get (T := TX3) C hw (by decide) 0 kf_X3_11 (EC_1 X _ _) rfl inA3 (by decide) rfl dX3_addField_28 ?_
  refine lv_iconst (v := 1) hx hb dX3_addField_31 (by decide) ?_
  refine w_aald (k' := 4) C hw (by decide) (EC_2 X _ _) rfl rfl (by decide) rfl dX3_addField_32 ?_
  refine lv_iload_n hx hb dX3_addField_33 rfl (lv_at hl 0 rfl) ?_
  refine lv_iload_n hx hb dX3_addField_34 rfl (lv_at hl 2 rfl) ?_
  refine lv_bipush (v := 20) hx hb dX3_addField_35 (by decide) ?_
  refine lv_idiv hx hb dX3_addField_37 (by decide) ?_
  obtain ⟨h8, hf⟩ := gd_some hf
  obtain ⟨st9, es10⟩ : ∃ z : St, z = sI st6 4 x1.toNatClampNeg (a1 / (20 : Int32)) := ⟨_, rfl⟩
  replace hf := bnd_nm hf es10
  refine w_iast C hw (by decide) (fun f9 => EC_4 X f9 _) h8 rfl dX3_addField_38 (fun H locs hw => ?_)
  rw [← es10] at hw
  refine lv_aload_n hx hb dX3_addField_39 rfl (lv_at hl 1 rfl) ?_
  refine w_get (T := TX3) C hw (by decide) 0 kf_X3_11 (EC_1 X _ _) rfl inA3 (by decide) rfl dX3_addField_40 ?_
  refine lv_iconst (v := 2) hx hb dX3_addField_43 (by decide) ?_
  refine w_aald (k' := 5) C hw (by decide) (EC_2 X _ _) rfl rfl (by decide) rfl dX3_addField_44 ?_
  refine lv_iload_n hx hb dX3_addField_45 rfl (lv_at hl 0 rfl) ?_
  refine lv_iload_n hx hb dX3_addField_46 rfl (lv_at hl 3 rfl) ?_
  refine lv_bipush (v := 100) hx hb dX3_addField_47 (by decide) ?_
  refine lv_idiv hx hb dX3_addField_49 (by decide) ?_
  obtain ⟨h11, hf⟩ := gd_some hf
  obtain ⟨st12, es13⟩ : ∃ z : St, z = sI st9 5 x1.toNatClampNeg (a2 / (100 : Int32)) := ⟨_, rfl⟩
  replace hf := bnd_nm hf es13
  refine w_iast C hw (by decide) (fun f9 => EC_5 X f9 _) h11 rfl dX3_addField_50 (fun H locs hw => ?_)
  rw [← es13] at hw
  refine lv_aload_n hx hb dX3_addField_51 rfl (lv_at hl 1 rfl) ?_
  refine w_get (T := TX3) C hw (by decide) 0 kf_X3_11 (EC_1 X _ _) rfl inA3 (by decide) rfl dX3_addField_52 ?_
  refine lv_iconst (v := 3) hx hb dX3_addField_55 (by decide) ?_
  refine w_aald (k' := 6) C hw (by decide) (EC_2 X _ _) rfl rfl (by decide) rfl dX3_addField_56 ?_
  refine lv_iload_n hx hb dX3_addField_57 rfl (lv_at hl 0 rfl) ?_
  refine lv_iload_n hx hb dX3_addField_58 rfl (lv_at hl 3 rfl) ?_
  refine lv_bipush (v := 100) hx hb dX3_addField_59 (by decide) ?_
  refine w_irem C (by decide) dX3_addField_61 ?_
  obtain ⟨h14, hf⟩ := gd_some hf
  obtain ⟨st15, es16⟩ : ∃ z : St, z = sI st12 6 x1.toNatClampNeg (rmI a2 (100 : Int32)) := ⟨_, rfl⟩
  replace hf := bnd_nm hf es16
  refine w_iast C hw (by decide) (fun f9 => EC_6 X f9 _) h14 rfl dX3_addField_62 (fun H locs hw => ?_)
  rw [← es16] at hw
  refine lv_aload_n hx hb dX3_addField_63 rfl (lv_at hl 1 rfl) ?_
  refine w_get (T := TX3) C hw (by decide) 0 kf_X3_11 (EC_1 X _ _) rfl inA3 (by decide) rfl dX3_addField_64 ?_
  refine lv_iconst (v := 4) hx hb dX3_addField_67 (by decide) ?_
  refine w_aald (k' := 7) C hw (by decide) (EC_2 X _ _) rfl rfl (by decide) rfl dX3_addField_68 ?_
  refine lv_iload_n hx hb dX3_addField_69 rfl (lv_at hl 0 rfl) ?_
  refine lv_iconst (v := -1) hx hb dX3_addField_70 (by decide) ?_
  obtain ⟨h17, hf⟩ := gd_some hf
  obtain ⟨st18, es19⟩ : ∃ z : St, z = sI st15 7 x1.toNatClampNeg (-1 : Int32) := ⟨_, rfl⟩
  replace hf := bnd_nm hf es19
  refine w_iast C hw (by decide) (fun f9 => EC_7 X f9 _) h17 rfl dX3_addField_71 (fun H locs hw => ?_)
  rw [← es19] at hw
  refine lv_aload_n hx hb dX3_addField_72 rfl (lv_at hl 1 rfl) ?_
  refine w_get (T := TX3) C hw (by decide) 0 kf_X3_11 (EC_1 X _ _) rfl inA3 (by decide) rfl dX3_addField_73 ?_
  refine lv_iconst (v := 5) hx hb dX3_addField_76 (by decide) ?_
  refine w_aald (k' := 8) C hw (by decide) (EC_2 X _ _) rfl rfl (by decide) rfl dX3_addField_77 ?_
  refine lv_iload_n hx hb dX3_addField_78 rfl (lv_at hl 0 rfl) ?_
  refine lv_bipush (v := 10) hx hb dX3_addField_79 (by decide) ?_
  obtain ⟨h20, hf⟩ := gd_some hf
  obtain ⟨st21, es22⟩ : ∃ z : St, z = sI st18 8 x1.toNatClampNeg (10 : Int32) := ⟨_, rfl⟩
  replace hf := bnd_nm hf es22
  refine w_iast C hw (by decide) (fun f9 => EC_8 X f9 _) h20 rfl dX3_addField_81 (fun H locs hw => ?_)
  rw [← es22] at hw
  refine lv_iload_n hx hb dX3_addField_82 rfl (lv_at hl 0 rfl) ?_
  exact w_iret C hw hr (so2 hf).1 (so2 hf).2 dX3_addField_83
theorem dX3_placeFall_0 : decode cX3_placeFall 0 = .ok (.aload_n 0, 1) := by decide +kernel
theorem dX3_placeFall_1 : decode cX3_placeFall 1 = .ok (.getfield 11, 3) := by decide +kernel
theorem dX3_placeFall_4 : decode cX3_placeFall 4 = .ok (.bipush 6, 2) := by decide +kernel
theorem dX3_placeFall_6 : decode cX3_placeFall 6 = .ok (.aaload, 1) := by decide +kernel
theorem dX3_placeFall_7 : decode cX3_placeFall 7 = .ok (.iload_n 1, 1) := by decide +kernel
theorem dX3_placeFall_8 : decode cX3_placeFall 8 = .ok (.iload_n 2, 1) := by decide +kernel
theorem dX3_placeFall_9 : decode cX3_placeFall 9 = .ok (.bipush 20, 2) := by decide +kernel
theorem dX3_placeFall_11 : decode cX3_placeFall 11 = .ok (.irem, 1) := by decide +kernel
theorem dX3_placeFall_12 : decode cX3_placeFall 12 = .ok (.iastore, 1) := by decide +kernel
theorem dX3_placeFall_13 : decode cX3_placeFall 13 = .ok (.aload_n 0, 1) := by decide +kernel
theorem dX3_placeFall_14 : decode cX3_placeFall 14 = .ok (.getfield 11, 3) := by decide +kernel
theorem dX3_placeFall_17 : decode cX3_placeFall 17 = .ok (.bipush 7, 2) := by decide +kernel
theorem dX3_placeFall_19 : decode cX3_placeFall 19 = .ok (.aaload, 1) := by decide +kernel
theorem dX3_placeFall_20 : decode cX3_placeFall 20 = .ok (.iload_n 1, 1) := by decide +kernel
theorem dX3_placeFall_21 : decode cX3_placeFall 21 = .ok (.iload_n 2, 1) := by decide +kernel
theorem dX3_placeFall_22 : decode cX3_placeFall 22 = .ok (.bipush 20, 2) := by decide +kernel
theorem dX3_placeFall_24 : decode cX3_placeFall 24 = .ok (.idiv, 1) := by decide +kernel
theorem dX3_placeFall_25 : decode cX3_placeFall 25 = .ok (.iastore, 1) := by decide +kernel
theorem dX3_placeFall_26 : decode cX3_placeFall 26 = .ok (.aload_n 0, 1) := by decide +kernel
theorem dX3_placeFall_27 : decode cX3_placeFall 27 = .ok (.getfield 11, 3) := by decide +kernel
theorem dX3_placeFall_30 : decode cX3_placeFall 30 = .ok (.bipush 8, 2) := by decide +kernel
theorem dX3_placeFall_32 : decode cX3_placeFall 32 = .ok (.aaload, 1) := by decide +kernel
theorem dX3_placeFall_33 : decode cX3_placeFall 33 = .ok (.iload_n 1, 1) := by decide +kernel
theorem dX3_placeFall_34 : decode cX3_placeFall 34 = .ok (.iload_n 3, 1) := by decide +kernel
theorem dX3_placeFall_35 : decode cX3_placeFall 35 = .ok (.iastore, 1) := by decide +kernel
theorem dX3_placeFall_36 : decode cX3_placeFall 36 = .ok (.aload_n 0, 1) := by decide +kernel
theorem dX3_placeFall_37 : decode cX3_placeFall 37 = .ok (.getfield 11, 3) := by decide +kernel
theorem dX3_placeFall_40 : decode cX3_placeFall 40 = .ok (.bipush 9, 2) := by decide +kernel
theorem dX3_placeFall_42 : decode cX3_placeFall 42 = .ok (.aaload, 1) := by decide +kernel
theorem dX3_placeFall_43 : decode cX3_placeFall 43 = .ok (.iload_n 1, 1) := by decide +kernel
theorem dX3_placeFall_44 : decode cX3_placeFall 44 = .ok (.iload 4, 2) := by decide +kernel
theorem dX3_placeFall_46 : decode cX3_placeFall 46 = .ok (.iastore, 1) := by decide +kernel
theorem dX3_placeFall_47 : decode cX3_placeFall 47 = .ok (.return_, 1) := by decide +kernel
theorem ok_yX3_placeFall : yOk yX3_placeFall 4 := ⟨by decide +kernel, by decide +kernel, by decide +kernel⟩
def fX3_placeFall (st : St) (a1 : Int32) (a2 : Int32) (a3 : Int32) (a4 : Int32) : Option (St) := gd (inB a1 13) (bnd (sI st 9 a1.toNatClampNeg (rmI a2 (20 : Int32))) (fun st2 => gd (inB a1 13) (bnd (sI st2 10 a1.toNatClampNeg (a2 / (20 : Int32))) (fun st5 => gd (inB a1 13) (bnd (sI st5 11 a1.toNatClampNeg a3) (fun st8 => gd (inB a1 13) (bnd (sI st8 12 a1.toNatClampNeg a4) (fun st11 => some st11))))))))
set_option maxHeartbeats 4000000 in
theorem zX3_placeFall (l : Launch) (X : WX) (st : St) (a1 : Int32) (a2 : Int32) (a3 : Int32) (a4 : Int32) (R : St) (hf : fX3_placeFall st a1 a2 a3 a4 = some R) : CtV l yX3_placeFall cX3_placeFall 5 ({ frames := 0, cells := 0, slots := 0, locals := 0 }) EC 65 X [.ref (xq X 1), .int a1, .int a2, .int a3, .int a4] st R := by
  refine ct_in (own := RX3) (by decide +kernel) rfl (Nat.le_of_ble_eq_true rfl) (fun p e s m below meth c C hr hw ls hl => ?_)
  obtain ⟨hx, hb, hml, hown, hts⟩ := id C.1
  have hl : lv_has ls 5 [(0, .ref (xq X 1)), (1, .int a1), (2, .int a2), (3, .int a3), (4, .int a4)] := hl
  unfold fX3_placeFall at hf
  refine lv_aload_n hx hb dX3_placeFall_0 rfl (lv_at hl 0 rfl) ?_
  refine w_get (T := TX3) C hw (by decide) 0 kf_X3_11 (EC_1 X _ _) rfl inA3 (by decide) rfl dX3_placeFall_1 ?_
  refine lv_bipush (v := 6) hx hb dX3_placeFall_4 (by decide) ?_
  refine w_aald (k' := 9) C hw (by decide) (EC_2 X _ _) rfl rfl (by decide) rfl dX3_placeFall_6 ?_
  refine lv_iload_n hx hb dX3_placeFall_7 rfl (lv_at hl 1 rfl) ?_
  refine lv_iload_n hx hb dX3_placeFall_8 rfl (lv_at hl 2 rfl) ?_
  refine lv_bipush (v := 20) hx hb dX3_placeFall_9 (by decide) ?_
  refine w_irem C (by decide) dX3_placeFall_11 ?_
  obtain ⟨h1, hf⟩ := gd_some hf
  obtain ⟨st2, es3⟩ : ∃ z : St, z = sI st 9 a1.toNatClampNeg (rmI a2 (20 : Int32)) := ⟨_, rfl⟩
  replace hf := bnd_nm hf es3
  refine w_iast C hw (by decide) (fun f9 => EC_9 X f9 _) h1 rfl dX3_placeFall_12 (fun H locs hw => ?_)
  rw [← es3] at hw
  refine lv_aload_n hx hb dX3_placeFall_13 rfl (lv_at hl 0 rfl) ?_
  refine w_get (T := TX3) C hw (by decide) 0 kf_X3_11 (EC_1 X _ _) rfl inA3 (by decide) rfl dX3_placeFall_14 ?_
  refine lv_bipush (v := 7) hx hb dX3_placeFall_17 (by decide) ?_
  refine w_aald (k' := 10) C hw (by decide) (EC_2 X _ _) rfl rfl (by decide) rfl dX3_placeFall_19 ?_
  refine lv_iload_n hx hb dX3_placeFall_20 rfl (lv_at hl 1 rfl) ?_
  refine lv_iload_n hx hb dX3_placeFall_21 rfl (lv_at hl 2 rfl) ?_
  refine lv_bipush (v := 20) hx hb dX3_placeFall_22 (by decide) ?_
  refine lv_idiv hx hb dX3_placeFall_24 (by decide) ?_
  obtain ⟨h4, hf⟩ := gd_some hf
  obtain ⟨st5, es6⟩ : ∃ z : St, z = sI st2 10 a1.toNatClampNeg (a2 / (20 : Int32)) := ⟨_, rfl⟩
  replace hf := bnd_nm hf es6
  refine w_iast C hw (by decide) (fun f9 => EC_10 X f9 _) h4 rfl dX3_placeFall_25 (fun H locs hw => ?_)
  rw [← es6] at hw
  refine lv_aload_n hx hb dX3_placeFall_26 rfl (lv_at hl 0 rfl) ?_
  refine w_get (T := TX3) C hw (by decide) 0 kf_X3_11 (EC_1 X _ _) rfl inA3 (by decide) rfl dX3_placeFall_27 ?_
  refine lv_bipush (v := 8) hx hb dX3_placeFall_30 (by decide) ?_
  refine w_aald (k' := 11) C hw (by decide) (EC_2 X _ _) rfl rfl (by decide) rfl dX3_placeFall_32 ?_
  refine lv_iload_n hx hb dX3_placeFall_33 rfl (lv_at hl 1 rfl) ?_
  refine lv_iload_n hx hb dX3_placeFall_34 rfl (lv_at hl 3 rfl) ?_
  obtain ⟨h7, hf⟩ := gd_some hf
  obtain ⟨st8, es9⟩ : ∃ z : St, z = sI st5 11 a1.toNatClampNeg a3 := ⟨_, rfl⟩
  replace hf := bnd_nm hf es9
  refine w_iast C hw (by decide) (fun f9 => EC_11 X f9 _) h7 rfl dX3_placeFall_35 (fun H locs hw => ?_)
  rw [← es9] at hw
  refine lv_aload_n hx hb dX3_placeFall_36 rfl (lv_at hl 0 rfl) ?_
  refine w_get (T := TX3) C hw (by decide) 0 kf_X3_11 (EC_1 X _ _) rfl inA3 (by decide) rfl dX3_placeFall_37 ?_
  refine lv_bipush (v := 9) hx hb dX3_placeFall_40 (by decide) ?_
  refine w_aald (k' := 12) C hw (by decide) (EC_2 X _ _) rfl rfl (by decide) rfl dX3_placeFall_42 ?_
  refine lv_iload_n hx hb dX3_placeFall_43 rfl (lv_at hl 1 rfl) ?_
  refine lv_iload hx hb dX3_placeFall_44 (lv_at hl 4 rfl) ?_
  obtain ⟨h10, hf⟩ := gd_some hf
  obtain ⟨st11, es12⟩ : ∃ z : St, z = sI st8 12 a1.toNatClampNeg a4 := ⟨_, rfl⟩
  replace hf := bnd_nm hf es12
  refine w_iast C hw (by decide) (fun f9 => EC_12 X f9 _) h10 rfl dX3_placeFall_46 (fun H locs hw => ?_)
  rw [← es12] at hw
  exact w_vret C hw hr (Option.some.inj hf) dX3_placeFall_47
theorem dX3_addFall_0 : decode cX3_addFall 0 = .ok (.aload_n 0, 1) := by decide +kernel
theorem dX3_addFall_1 : decode cX3_addFall 1 = .ok (.getfield 20, 3) := by decide +kernel
theorem dX3_addFall_4 : decode cX3_addFall 4 = .ok (.istore_n 3, 1) := by decide +kernel
theorem dX3_addFall_5 : decode cX3_addFall 5 = .ok (.aload_n 0, 1) := by decide +kernel
theorem dX3_addFall_6 : decode cX3_addFall 6 = .ok (.dup, 1) := by decide +kernel
theorem dX3_addFall_7 : decode cX3_addFall 7 = .ok (.getfield 20, 3) := by decide +kernel
theorem dX3_addFall_10 : decode cX3_addFall 10 = .ok (.iconst 1, 1) := by decide +kernel
theorem dX3_addFall_11 : decode cX3_addFall 11 = .ok (.iadd, 1) := by decide +kernel
theorem dX3_addFall_12 : decode cX3_addFall 12 = .ok (.putfield 20, 3) := by decide +kernel
theorem dX3_addFall_15 : decode cX3_addFall 15 = .ok (.aload_n 0, 1) := by decide +kernel
theorem dX3_addFall_16 : decode cX3_addFall 16 = .ok (.iload_n 3, 1) := by decide +kernel
theorem dX3_addFall_17 : decode cX3_addFall 17 = .ok (.iload_n 1, 1) := by decide +kernel
theorem dX3_addFall_18 : decode cX3_addFall 18 = .ok (.iload_n 2, 1) := by decide +kernel
theorem dX3_addFall_19 : decode cX3_addFall 19 = .ok (.iconst 0, 1) := by decide +kernel
theorem dX3_addFall_20 : decode cX3_addFall 20 = .ok (.invokevirtual 23, 3) := by decide +kernel
theorem dX3_addFall_23 : decode cX3_addFall 23 = .ok (.iload_n 3, 1) := by decide +kernel
theorem dX3_addFall_24 : decode cX3_addFall 24 = .ok (.ireturn, 1) := by decide +kernel
theorem ok_yX3_addFall : yOk yX3_addFall 2 := ⟨by decide +kernel, by decide +kernel, by decide +kernel⟩
def fX3_addFall (st : St) (a1 : Int32) (a2 : Int32) : Option (Int32 × St) := bnd (gI st 1 2) (fun x1 => bnd (sI st 1 2 ((gI st 1 2) + (1 : Int32))) (fun st3 => (fX3_placeFall st3 x1 a1 a2 (0 : Int32)).bind (fun r5 => some (x1, r5))))
set_option maxHeartbeats 4000000 in
theorem zX3_addFall (l : Launch) (X : WX) (st : St) (a1 : Int32) (a2 : Int32) (R : Int32 × St) (hf : fX3_addFall st a1 a2 = some R) : CtI l yX3_addFall cX3_addFall 4 .int ({ frames := 1, cells := 0, slots := 0, locals := 24 }) EC 65 X [.ref (xq X 1), .int a1, .int a2] st R.1 R.2 := by
  refine ct_in (own := RX3) (by decide +kernel) rfl (Nat.le_of_ble_eq_true rfl) (fun p e s m below meth c C hr hw ls hl => ?_)
  obtain ⟨hx, hb, hml, hown, hts⟩ := id C.1
  have hl : lv_has ls 4 [(0, .ref (xq X 1)), (1, .int a1), (2, .int a2)] := hl
  unfold fX3_addFall at hf
  refine lv_aload_n hx hb dX3_addFall_0 rfl (lv_at hl 0 rfl) ?_
  refine w_get (T := TX3) C hw (by decide) 2 kf_X3_20 (EC_1 X _ _) rfl inA3 (by decide) rfl dX3_addFall_1 ?_
  refine lv_topi (fun x1 e2 => ?_)
  replace hf := bnd_nm hf e2
  refine lv_istore_n (lv' := [(3, .int x1), (0, .ref (xq X 1)), (1, .int a1), (2, .int a2)]) hx hb dX3_addFall_4 rfl hl (by decide) rfl (fun ls hl => ?_)
  refine lv_aload_n hx hb dX3_addFall_5 rfl (lv_at hl 1 rfl) ?_
  refine lv_dup hx hb dX3_addFall_6 rfl ?_
  refine w_get (T := TX3) C hw (by decide) 2 kf_X3_20 (EC_1 X _ _) rfl inA3 (by decide) rfl dX3_addFall_7 ?_
  refine lv_iconst (v := 1) hx hb dX3_addFall_10 (by decide) ?_
  refine lv_iadd hx hb dX3_addFall_11 ?_
  obtain ⟨st3, es4⟩ : ∃ z : St, z = sI st 1 2 ((gI st 1 2) + (1 : Int32)) := ⟨_, rfl⟩
  replace hf := bnd_nm hf es4
  refine w_puti (T := TX3) C hw (by decide) 2 kf_X3_20 (EC_1 X _ _) rfl inA3 tyX3_ok nmX3 (by decide) rfl rfl (Nat.le_of_ble_eq_true rfl) rfl dX3_addFall_12 (fun H locs hw => ?_)
  rw [← es4] at hw
  refine lv_aload_n hx hb dX3_addFall_15 rfl (lv_at hl 1 rfl) ?_
  refine lv_iload_n hx hb dX3_addFall_16 rfl (lv_at hl 0 rfl) ?_
  refine lv_iload_n hx hb dX3_addFall_17 rfl (lv_at hl 2 rfl) ?_
  refine lv_iload_n hx hb dX3_addFall_18 rfl (lv_at hl 3 rfl) ?_
  refine lv_iconst (v := 0) hx hb dX3_addFall_19 (by decide) ?_
  obtain ⟨r5, k6, hf⟩ := bd_some hf
  refine w_goV hw (w_runV (rest := []) C hw (zX3_placeFall _ _ st3 x1 a1 a2 (0 : Int32) r5 k6) (by decide) (EC_1 X _ _) rfl km_X3_23 ki_yX3_placeFall kv_X3_placeFall kz_X3 kc_X3_placeFall rfl ok_yX3_placeFall ⟨Nat.le_of_ble_eq_true rfl, Nat.le_of_ble_eq_true rfl⟩ rfl rfl rfl rfl hl.1 (Nat.le_of_ble_eq_true rfl) dX3_addFall_20 ⟨Nat.zero_le _, Nat.zero_le _⟩) (fun H locs hw => ?_)
  refine lv_iload_n hx hb dX3_addFall_23 rfl (lv_at hl 0 rfl) ?_
  exact w_iret C hw hr (so2 hf).1 (so2 hf).2 dX3_addFall_24
theorem dX3_placeCry_0 : decode cX3_placeCry 0 = .ok (.aload_n 0, 1) := by decide +kernel
theorem dX3_placeCry_1 : decode cX3_placeCry 1 = .ok (.getfield 11, 3) := by decide +kernel
theorem dX3_placeCry_4 : decode cX3_placeCry 4 = .ok (.bipush 10, 2) := by decide +kernel
theorem dX3_placeCry_6 : decode cX3_placeCry 6 = .ok (.aaload, 1) := by decide +kernel
theorem dX3_placeCry_7 : decode cX3_placeCry 7 = .ok (.iload_n 1, 1) := by decide +kernel
theorem dX3_placeCry_8 : decode cX3_placeCry 8 = .ok (.iload_n 2, 1) := by decide +kernel
theorem dX3_placeCry_9 : decode cX3_placeCry 9 = .ok (.iastore, 1) := by decide +kernel
theorem dX3_placeCry_10 : decode cX3_placeCry 10 = .ok (.aload_n 0, 1) := by decide +kernel
theorem dX3_placeCry_11 : decode cX3_placeCry 11 = .ok (.getfield 11, 3) := by decide +kernel
theorem dX3_placeCry_14 : decode cX3_placeCry 14 = .ok (.bipush 11, 2) := by decide +kernel
theorem dX3_placeCry_16 : decode cX3_placeCry 16 = .ok (.aaload, 1) := by decide +kernel
theorem dX3_placeCry_17 : decode cX3_placeCry 17 = .ok (.iload_n 1, 1) := by decide +kernel
theorem dX3_placeCry_18 : decode cX3_placeCry 18 = .ok (.iload_n 3, 1) := by decide +kernel
theorem dX3_placeCry_19 : decode cX3_placeCry 19 = .ok (.iastore, 1) := by decide +kernel
theorem dX3_placeCry_20 : decode cX3_placeCry 20 = .ok (.aload_n 0, 1) := by decide +kernel
theorem dX3_placeCry_21 : decode cX3_placeCry 21 = .ok (.getfield 11, 3) := by decide +kernel
theorem dX3_placeCry_24 : decode cX3_placeCry 24 = .ok (.bipush 12, 2) := by decide +kernel
theorem dX3_placeCry_26 : decode cX3_placeCry 26 = .ok (.aaload, 1) := by decide +kernel
theorem dX3_placeCry_27 : decode cX3_placeCry 27 = .ok (.iload_n 1, 1) := by decide +kernel
theorem dX3_placeCry_28 : decode cX3_placeCry 28 = .ok (.iload 4, 2) := by decide +kernel
theorem dX3_placeCry_30 : decode cX3_placeCry 30 = .ok (.iastore, 1) := by decide +kernel
theorem dX3_placeCry_31 : decode cX3_placeCry 31 = .ok (.aload_n 0, 1) := by decide +kernel
theorem dX3_placeCry_32 : decode cX3_placeCry 32 = .ok (.getfield 11, 3) := by decide +kernel
theorem dX3_placeCry_35 : decode cX3_placeCry 35 = .ok (.bipush 13, 2) := by decide +kernel
theorem dX3_placeCry_37 : decode cX3_placeCry 37 = .ok (.aaload, 1) := by decide +kernel
theorem dX3_placeCry_38 : decode cX3_placeCry 38 = .ok (.iload_n 1, 1) := by decide +kernel
theorem dX3_placeCry_39 : decode cX3_placeCry 39 = .ok (.iload 5, 2) := by decide +kernel
theorem dX3_placeCry_41 : decode cX3_placeCry 41 = .ok (.iastore, 1) := by decide +kernel
theorem dX3_placeCry_42 : decode cX3_placeCry 42 = .ok (.return_, 1) := by decide +kernel
theorem ok_yX3_placeCry : yOk yX3_placeCry 5 := ⟨by decide +kernel, by decide +kernel, by decide +kernel⟩
def fX3_placeCry (st : St) (a1 : Int32) (a2 : Int32) (a3 : Int32) (a4 : Int32) (a5 : Int32) : Option (St) := gd (inB a1 13) (bnd (sI st 13 a1.toNatClampNeg a2) (fun st2 => gd (inB a1 13) (bnd (sI st2 14 a1.toNatClampNeg a3) (fun st5 => gd (inB a1 13) (bnd (sI st5 15 a1.toNatClampNeg a4) (fun st8 => gd (inB a1 13) (bnd (sI st8 16 a1.toNatClampNeg a5) (fun st11 => some st11))))))))
set_option maxHeartbeats 4000000 in
theorem zX3_placeCry (l : Launch) (X : WX) (st : St) (a1 : Int32) (a2 : Int32) (a3 : Int32) (a4 : Int32) (a5 : Int32) (R : St) (hf : fX3_placeCry st a1 a2 a3 a4 a5 = some R) : CtV l yX3_placeCry cX3_placeCry 6 ({ frames := 0, cells := 0, slots := 0, locals := 0 }) EC 65 X [.ref (xq X 1), .int a1, .int a2, .int a3, .int a4, .int a5] st R := by
  refine ct_in (own := RX3) (by decide +kernel) rfl (Nat.le_of_ble_eq_true rfl) (fun p e s m below meth c C hr hw ls hl => ?_)
  obtain ⟨hx, hb, hml, hown, hts⟩ := id C.1
  have hl : lv_has ls 6 [(0, .ref (xq X 1)), (1, .int a1), (2, .int a2), (3, .int a3), (4, .int a4), (5, .int a5)] := hl
  unfold fX3_placeCry at hf
  refine lv_aload_n hx hb dX3_placeCry_0 rfl (lv_at hl 0 rfl) ?_
  refine w_get (T := TX3) C hw (by decide) 0 kf_X3_11 (EC_1 X _ _) rfl inA3 (by decide) rfl dX3_placeCry_1 ?_
  refine lv_bipush (v := 10) hx hb dX3_placeCry_4 (by decide) ?_
  refine w_aald (k' := 13) C hw (by decide) (EC_2 X _ _) rfl rfl (by decide) rfl dX3_placeCry_6 ?_
  refine lv_iload_n hx hb dX3_placeCry_7 rfl (lv_at hl 1 rfl) ?_
  refine lv_iload_n hx hb dX3_placeCry_8 rfl (lv_at hl 2 rfl) ?_
  obtain ⟨h1, hf⟩ := gd_some hf
  obtain ⟨st2, es3⟩ : ∃ z : St, z = sI st 13 a1.toNatClampNeg a2 := ⟨_, rfl⟩
  replace hf := bnd_nm hf es3
  refine w_iast C hw (by decide) (fun f9 => EC_13 X f9 _) h1 rfl dX3_placeCry_9 (fun H locs hw => ?_)
  rw [← es3] at hw
  refine lv_aload_n hx hb dX3_placeCry_10 rfl (lv_at hl 0 rfl) ?_
  refine w_get (T := TX3) C hw (by decide) 0 kf_X3_11 (EC_1 X _ _) rfl inA3 (by decide) rfl dX3_placeCry_11 ?_
  refine lv_bipush (v := 11) hx hb dX3_placeCry_14 (by decide) ?_
  refine w_aald (k' := 14) C hw (by decide) (EC_2 X _ _) rfl rfl (by decide) rfl dX3_placeCry_16 ?_
  refine lv_iload_n hx hb dX3_placeCry_17 rfl (lv_at hl 1 rfl) ?_
  refine lv_iload_n hx hb dX3_placeCry_18 rfl (lv_at hl 3 rfl) ?_
  obtain ⟨h4, hf⟩ := gd_some hf
  obtain ⟨st5, es6⟩ : ∃ z : St, z = sI st2 14 a1.toNatClampNeg a3 := ⟨_, rfl⟩
  replace hf := bnd_nm hf es6
  refine w_iast C hw (by decide) (fun f9 => EC_14 X f9 _) h4 rfl dX3_placeCry_19 (fun H locs hw => ?_)
  rw [← es6] at hw
  refine lv_aload_n hx hb dX3_placeCry_20 rfl (lv_at hl 0 rfl) ?_
  refine w_get (T := TX3) C hw (by decide) 0 kf_X3_11 (EC_1 X _ _) rfl inA3 (by decide) rfl dX3_placeCry_21 ?_
  refine lv_bipush (v := 12) hx hb dX3_placeCry_24 (by decide) ?_
  refine w_aald (k' := 15) C hw (by decide) (EC_2 X _ _) rfl rfl (by decide) rfl dX3_placeCry_26 ?_
  refine lv_iload_n hx hb dX3_placeCry_27 rfl (lv_at hl 1 rfl) ?_
  refine lv_iload hx hb dX3_placeCry_28 (lv_at hl 4 rfl) ?_
  obtain ⟨h7, hf⟩ := gd_some hf
  obtain ⟨st8, es9⟩ : ∃ z : St, z = sI st5 15 a1.toNatClampNeg a4 := ⟨_, rfl⟩
  replace hf := bnd_nm hf es9
  refine w_iast C hw (by decide) (fun f9 => EC_15 X f9 _) h7 rfl dX3_placeCry_30 (fun H locs hw => ?_)
  rw [← es9] at hw
  refine lv_aload_n hx hb dX3_placeCry_31 rfl (lv_at hl 0 rfl) ?_
  refine w_get (T := TX3) C hw (by decide) 0 kf_X3_11 (EC_1 X _ _) rfl inA3 (by decide) rfl dX3_placeCry_32 ?_
  refine lv_bipush (v := 13) hx hb dX3_placeCry_35 (by decide) ?_
  refine w_aald (k' := 16) C hw (by decide) (EC_2 X _ _) rfl rfl (by decide) rfl dX3_placeCry_37 ?_
  refine lv_iload_n hx hb dX3_placeCry_38 rfl (lv_at hl 1 rfl) ?_
  refine lv_iload hx hb dX3_placeCry_39 (lv_at hl 5 rfl) ?_
  obtain ⟨h10, hf⟩ := gd_some hf
  obtain ⟨st11, es12⟩ : ∃ z : St, z = sI st8 16 a1.toNatClampNeg a5 := ⟨_, rfl⟩
  replace hf := bnd_nm hf es12
  refine w_iast C hw (by decide) (fun f9 => EC_16 X f9 _) h10 rfl dX3_placeCry_41 (fun H locs hw => ?_)
  rw [← es12] at hw
  exact w_vret C hw hr (Option.some.inj hf) dX3_placeCry_42
theorem dX3_addCry_0 : decode cX3_addCry 0 = .ok (.aload_n 0, 1) := by decide +kernel
theorem dX3_addCry_1 : decode cX3_addCry 1 = .ok (.getfield 27, 3) := by decide +kernel
theorem dX3_addCry_4 : decode cX3_addCry 4 = .ok (.istore_n 3, 1) := by decide +kernel
theorem dX3_addCry_5 : decode cX3_addCry 5 = .ok (.aload_n 0, 1) := by decide +kernel
theorem dX3_addCry_6 : decode cX3_addCry 6 = .ok (.dup, 1) := by decide +kernel
theorem dX3_addCry_7 : decode cX3_addCry 7 = .ok (.getfield 27, 3) := by decide +kernel
theorem dX3_addCry_10 : decode cX3_addCry 10 = .ok (.iconst 1, 1) := by decide +kernel
theorem dX3_addCry_11 : decode cX3_addCry 11 = .ok (.iadd, 1) := by decide +kernel
theorem dX3_addCry_12 : decode cX3_addCry 12 = .ok (.putfield 27, 3) := by decide +kernel
theorem dX3_addCry_15 : decode cX3_addCry 15 = .ok (.aload_n 0, 1) := by decide +kernel
theorem dX3_addCry_16 : decode cX3_addCry 16 = .ok (.iload_n 3, 1) := by decide +kernel
theorem dX3_addCry_17 : decode cX3_addCry 17 = .ok (.iload_n 1, 1) := by decide +kernel
theorem dX3_addCry_18 : decode cX3_addCry 18 = .ok (.iload_n 2, 1) := by decide +kernel
theorem dX3_addCry_19 : decode cX3_addCry 19 = .ok (.iconst 0, 1) := by decide +kernel
theorem dX3_addCry_20 : decode cX3_addCry 20 = .ok (.iconst 5, 1) := by decide +kernel
theorem dX3_addCry_21 : decode cX3_addCry 21 = .ok (.invokevirtual 30, 3) := by decide +kernel
theorem dX3_addCry_24 : decode cX3_addCry 24 = .ok (.iload_n 3, 1) := by decide +kernel
theorem dX3_addCry_25 : decode cX3_addCry 25 = .ok (.ireturn, 1) := by decide +kernel
theorem ok_yX3_addCry : yOk yX3_addCry 2 := ⟨by decide +kernel, by decide +kernel, by decide +kernel⟩
def fX3_addCry (st : St) (a1 : Int32) (a2 : Int32) : Option (Int32 × St) := bnd (gI st 1 3) (fun x1 => bnd (sI st 1 3 ((gI st 1 3) + (1 : Int32))) (fun st3 => (fX3_placeCry st3 x1 a1 a2 (0 : Int32) (5 : Int32)).bind (fun r5 => some (x1, r5))))
set_option maxHeartbeats 4000000 in
theorem zX3_addCry (l : Launch) (X : WX) (st : St) (a1 : Int32) (a2 : Int32) (R : Int32 × St) (hf : fX3_addCry st a1 a2 = some R) : CtI l yX3_addCry cX3_addCry 4 .int ({ frames := 1, cells := 0, slots := 0, locals := 25 }) EC 65 X [.ref (xq X 1), .int a1, .int a2] st R.1 R.2 := by
  refine ct_in (own := RX3) (by decide +kernel) rfl (Nat.le_of_ble_eq_true rfl) (fun p e s m below meth c C hr hw ls hl => ?_)
  obtain ⟨hx, hb, hml, hown, hts⟩ := id C.1
  have hl : lv_has ls 4 [(0, .ref (xq X 1)), (1, .int a1), (2, .int a2)] := hl
  unfold fX3_addCry at hf
  refine lv_aload_n hx hb dX3_addCry_0 rfl (lv_at hl 0 rfl) ?_
  refine w_get (T := TX3) C hw (by decide) 3 kf_X3_27 (EC_1 X _ _) rfl inA3 (by decide) rfl dX3_addCry_1 ?_
  refine lv_topi (fun x1 e2 => ?_)
  replace hf := bnd_nm hf e2
  refine lv_istore_n (lv' := [(3, .int x1), (0, .ref (xq X 1)), (1, .int a1), (2, .int a2)]) hx hb dX3_addCry_4 rfl hl (by decide) rfl (fun ls hl => ?_)
  refine lv_aload_n hx hb dX3_addCry_5 rfl (lv_at hl 1 rfl) ?_
  refine lv_dup hx hb dX3_addCry_6 rfl ?_
  refine w_get (T := TX3) C hw (by decide) 3 kf_X3_27 (EC_1 X _ _) rfl inA3 (by decide) rfl dX3_addCry_7 ?_
  refine lv_iconst (v := 1) hx hb dX3_addCry_10 (by decide) ?_
  refine lv_iadd hx hb dX3_addCry_11 ?_
  obtain ⟨st3, es4⟩ : ∃ z : St, z = sI st 1 3 ((gI st 1 3) + (1 : Int32)) := ⟨_, rfl⟩
  replace hf := bnd_nm hf es4
  refine w_puti (T := TX3) C hw (by decide) 3 kf_X3_27 (EC_1 X _ _) rfl inA3 tyX3_ok nmX3 (by decide) rfl rfl (Nat.le_of_ble_eq_true rfl) rfl dX3_addCry_12 (fun H locs hw => ?_)
  rw [← es4] at hw
  refine lv_aload_n hx hb dX3_addCry_15 rfl (lv_at hl 1 rfl) ?_
  refine lv_iload_n hx hb dX3_addCry_16 rfl (lv_at hl 0 rfl) ?_
  refine lv_iload_n hx hb dX3_addCry_17 rfl (lv_at hl 2 rfl) ?_
  refine lv_iload_n hx hb dX3_addCry_18 rfl (lv_at hl 3 rfl) ?_
  refine lv_iconst (v := 0) hx hb dX3_addCry_19 (by decide) ?_
  refine lv_iconst (v := 5) hx hb dX3_addCry_20 (by decide) ?_
  obtain ⟨r5, k6, hf⟩ := bd_some hf
  refine w_goV hw (w_runV (rest := []) C hw (zX3_placeCry _ _ st3 x1 a1 a2 (0 : Int32) (5 : Int32) r5 k6) (by decide) (EC_1 X _ _) rfl km_X3_30 ki_yX3_placeCry kv_X3_placeCry kz_X3 kc_X3_placeCry rfl ok_yX3_placeCry ⟨Nat.le_of_ble_eq_true rfl, Nat.le_of_ble_eq_true rfl⟩ rfl rfl rfl rfl hl.1 (Nat.le_of_ble_eq_true rfl) dX3_addCry_21 ⟨Nat.zero_le _, Nat.zero_le _⟩) (fun H locs hw => ?_)
  refine lv_iload_n hx hb dX3_addCry_24 rfl (lv_at hl 0 rfl) ?_
  exact w_iret C hw hr (so2 hf).1 (so2 hf).2 dX3_addCry_25
theorem dX3_has_0 : decode cX3_has 0 = .ok (.iload_n 1, 1) := by decide +kernel
theorem dX3_has_1 : decode cX3_has 1 = .ok (.ifCond .lt 13, 3) := by decide +kernel
theorem dX3_has_4 : decode cX3_has 4 = .ok (.iload_n 2, 1) := by decide +kernel
theorem dX3_has_5 : decode cX3_has 5 = .ok (.ifCond .lt 9, 3) := by decide +kernel
theorem dX3_has_8 : decode cX3_has 8 = .ok (.iload_n 2, 1) := by decide +kernel
theorem dX3_has_9 : decode cX3_has 9 = .ok (.bipush 13, 2) := by decide +kernel
theorem dX3_has_11 : decode cX3_has 11 = .ok (.if_icmp .le 5, 3) := by decide +kernel
theorem dX3_has_14 : decode cX3_has 14 = .ok (.iconst 0, 1) := by decide +kernel
theorem dX3_has_15 : decode cX3_has 15 = .ok (.ireturn, 1) := by decide +kernel
theorem dX3_has_16 : decode cX3_has 16 = .ok (.iload_n 2, 1) := by decide +kernel
theorem dX3_has_17 : decode cX3_has 17 = .ok (.iconst 5, 1) := by decide +kernel
theorem dX3_has_18 : decode cX3_has 18 = .ok (.if_icmp .gt 17, 3) := by decide +kernel
theorem dX3_has_21 : decode cX3_has 21 = .ok (.iload_n 1, 1) := by decide +kernel
theorem dX3_has_22 : decode cX3_has 22 = .ok (.aload_n 0, 1) := by decide +kernel
theorem dX3_has_23 : decode cX3_has 23 = .ok (.getfield 16, 3) := by decide +kernel
theorem dX3_has_26 : decode cX3_has 26 = .ok (.if_icmp .ge 7, 3) := by decide +kernel
theorem dX3_has_29 : decode cX3_has 29 = .ok (.iconst 1, 1) := by decide +kernel
theorem dX3_has_30 : decode cX3_has 30 = .ok (.goto 4, 3) := by decide +kernel
theorem dX3_has_33 : decode cX3_has 33 = .ok (.iconst 0, 1) := by decide +kernel
theorem dX3_has_34 : decode cX3_has 34 = .ok (.ireturn, 1) := by decide +kernel
theorem dX3_has_35 : decode cX3_has 35 = .ok (.iload_n 1, 1) := by decide +kernel
theorem dX3_has_36 : decode cX3_has 36 = .ok (.iload_n 2, 1) := by decide +kernel
theorem dX3_has_37 : decode cX3_has 37 = .ok (.bipush 9, 2) := by decide +kernel
theorem dX3_has_39 : decode cX3_has 39 = .ok (.if_icmp .gt 10, 3) := by decide +kernel
theorem dX3_has_42 : decode cX3_has 42 = .ok (.aload_n 0, 1) := by decide +kernel
theorem dX3_has_43 : decode cX3_has 43 = .ok (.getfield 20, 3) := by decide +kernel
theorem dX3_has_46 : decode cX3_has 46 = .ok (.goto 7, 3) := by decide +kernel
theorem dX3_has_49 : decode cX3_has 49 = .ok (.aload_n 0, 1) := by decide +kernel
theorem dX3_has_50 : decode cX3_has 50 = .ok (.getfield 27, 3) := by decide +kernel
theorem dX3_has_53 : decode cX3_has 53 = .ok (.if_icmp .ge 7, 3) := by decide +kernel
theorem dX3_has_56 : decode cX3_has 56 = .ok (.iconst 1, 1) := by decide +kernel
theorem dX3_has_57 : decode cX3_has 57 = .ok (.goto 4, 3) := by decide +kernel
theorem dX3_has_60 : decode cX3_has 60 = .ok (.iconst 0, 1) := by decide +kernel
theorem dX3_has_61 : decode cX3_has 61 = .ok (.ireturn, 1) := by decide +kernel
theorem ok_yX3_has : yOk yX3_has 2 := ⟨by decide +kernel, by decide +kernel, by decide +kernel⟩
def fX3_has (st : St) (a1 : Int32) (a2 : Int32) : Bool := if a1 < 0 then (false) else (if a2 < 0 then (false) else (if a2 ≤ (13 : Int32) then (if (5 : Int32) < a2 then (if (9 : Int32) < a2 then (if gI st 1 3 ≤ a1 then (false) else (true)) else (if gI st 1 2 ≤ a1 then (false) else (true))) else (if gI st 1 1 ≤ a1 then (false) else (true))) else (false)))
set_option maxHeartbeats 4000000 in
theorem zX3_has (l : Launch) (X : WX) (st : St) (a1 : Int32) (a2 : Int32) : CtI l yX3_has cX3_has 3 .boolean ({ frames := 0, cells := 0, slots := 0, locals := 0 }) EC 65 X [.ref (xq X 1), .int a1, .int a2] st (bI (fX3_has st a1 a2)) st := by
  generalize hf : fX3_has st a1 a2 = R
  refine ct_in (own := RX3) (by decide +kernel) rfl (Nat.le_of_ble_eq_true rfl) (fun p e s m below meth c C hr hw ls hl => ?_)
  obtain ⟨hx, hb, hml, hown, hts⟩ := id C.1
  have hl : lv_has ls 3 [(0, .ref (xq X 1)), (1, .int a1), (2, .int a2)] := hl
  unfold fX3_has at hf
  refine lv_iload_n hx hb dX3_has_0 rfl (lv_at hl 1 rfl) ?_
  refine lv_if_lt (tgt := 14) hx hb dX3_has_1 (by decide) (fun c1 => ?_) (fun c1 => ?_)
  · replace hf := ite_t hf c1
    refine lv_iconst (v := 0) hx hb dX3_has_14 (by decide) ?_
    exact w_zret (b := false) C hw hr rfl hf rfl dX3_has_15
  · replace hf := ite_f hf c1
    refine lv_iload_n hx hb dX3_has_4 rfl (lv_at hl 2 rfl) ?_
    refine lv_if_lt (tgt := 14) hx hb dX3_has_5 (by decide) (fun c2 => ?_) (fun c2 => ?_)
    · replace hf := ite_t hf c2
      refine lv_iconst (v := 0) hx hb dX3_has_14 (by decide) ?_
      exact w_zret (b := false) C hw hr rfl hf rfl dX3_has_15
    · replace hf := ite_f hf c2
      refine lv_iload_n hx hb dX3_has_8 rfl (lv_at hl 2 rfl) ?_
      refine lv_bipush (v := 13) hx hb dX3_has_9 (by decide) ?_
      refine lv_icmp_le (tgt := 16) hx hb dX3_has_11 (by decide) (fun c3 => ?_) (fun c3 => ?_)
      · replace hf := ite_t hf c3
        refine lv_iload_n hx hb dX3_has_16 rfl (lv_at hl 2 rfl) ?_
        refine lv_iconst (v := 5) hx hb dX3_has_17 (by decide) ?_
        refine lv_icmp_gt (tgt := 35) hx hb dX3_has_18 (by decide) (fun c4 => ?_) (fun c4 => ?_)
        · replace hf := ite_t hf c4
          refine lv_iload_n hx hb dX3_has_35 rfl (lv_at hl 1 rfl) ?_
          refine lv_iload_n hx hb dX3_has_36 rfl (lv_at hl 2 rfl) ?_
          refine lv_bipush (v := 9) hx hb dX3_has_37 (by decide) ?_
          refine lv_icmp_gt (tgt := 49) hx hb dX3_has_39 (by decide) (fun c5 => ?_) (fun c5 => ?_)
          · replace hf := ite_t hf c5
            refine lv_aload_n hx hb dX3_has_49 rfl (lv_at hl 0 rfl) ?_
            refine w_get (T := TX3) C hw (by decide) 3 kf_X3_27 (EC_1 X _ _) rfl inA3 (by decide) rfl dX3_has_50 ?_
            refine lv_icmp_ge (tgt := 60) hx hb dX3_has_53 (by decide) (fun c6 => ?_) (fun c6 => ?_)
            · replace hf := ite_t hf c6
              refine lv_iconst (v := 0) hx hb dX3_has_60 (by decide) ?_
              exact w_zret (b := false) C hw hr rfl hf rfl dX3_has_61
            · replace hf := ite_f hf c6
              refine lv_iconst (v := 1) hx hb dX3_has_56 (by decide) ?_
              refine lv_goto (tgt := 61) hx hb dX3_has_57 (by decide) ?_
              exact w_zret (b := true) C hw hr rfl hf rfl dX3_has_61
          · replace hf := ite_f hf c5
            refine lv_aload_n hx hb dX3_has_42 rfl (lv_at hl 0 rfl) ?_
            refine w_get (T := TX3) C hw (by decide) 2 kf_X3_20 (EC_1 X _ _) rfl inA3 (by decide) rfl dX3_has_43 ?_
            refine lv_goto (tgt := 53) hx hb dX3_has_46 (by decide) ?_
            refine lv_icmp_ge (tgt := 60) hx hb dX3_has_53 (by decide) (fun c7 => ?_) (fun c7 => ?_)
            · replace hf := ite_t hf c7
              refine lv_iconst (v := 0) hx hb dX3_has_60 (by decide) ?_
              exact w_zret (b := false) C hw hr rfl hf rfl dX3_has_61
            · replace hf := ite_f hf c7
              refine lv_iconst (v := 1) hx hb dX3_has_56 (by decide) ?_
              refine lv_goto (tgt := 61) hx hb dX3_has_57 (by decide) ?_
              exact w_zret (b := true) C hw hr rfl hf rfl dX3_has_61
        · replace hf := ite_f hf c4
          refine lv_iload_n hx hb dX3_has_21 rfl (lv_at hl 1 rfl) ?_
          refine lv_aload_n hx hb dX3_has_22 rfl (lv_at hl 0 rfl) ?_
          refine w_get (T := TX3) C hw (by decide) 1 kf_X3_16 (EC_1 X _ _) rfl inA3 (by decide) rfl dX3_has_23 ?_
          refine lv_icmp_ge (tgt := 33) hx hb dX3_has_26 (by decide) (fun c8 => ?_) (fun c8 => ?_)
          · replace hf := ite_t hf c8
            refine lv_iconst (v := 0) hx hb dX3_has_33 (by decide) ?_
            exact w_zret (b := false) C hw hr rfl hf rfl dX3_has_34
          · replace hf := ite_f hf c8
            refine lv_iconst (v := 1) hx hb dX3_has_29 (by decide) ?_
            refine lv_goto (tgt := 34) hx hb dX3_has_30 (by decide) ?_
            exact w_zret (b := true) C hw hr rfl hf rfl dX3_has_34
      · replace hf := ite_f hf c3
        refine lv_iconst (v := 0) hx hb dX3_has_14 (by decide) ?_
        exact w_zret (b := false) C hw hr rfl hf rfl dX3_has_15
theorem dX3_fieldAt_0 : decode cX3_fieldAt 0 = .ok (.iconst 0, 1) := by decide +kernel
theorem dX3_fieldAt_1 : decode cX3_fieldAt 1 = .ok (.istore_n 3, 1) := by decide +kernel
theorem dX3_fieldAt_2 : decode cX3_fieldAt 2 = .ok (.iload_n 3, 1) := by decide +kernel
theorem dX3_fieldAt_3 : decode cX3_fieldAt 3 = .ok (.aload_n 0, 1) := by decide +kernel
theorem dX3_fieldAt_4 : decode cX3_fieldAt 4 = .ok (.getfield 16, 3) := by decide +kernel
theorem dX3_fieldAt_7 : decode cX3_fieldAt 7 = .ok (.if_icmp .ge 71, 3) := by decide +kernel
theorem dX3_fieldAt_10 : decode cX3_fieldAt 10 = .ok (.iload_n 1, 1) := by decide +kernel
theorem dX3_fieldAt_11 : decode cX3_fieldAt 11 = .ok (.aload_n 0, 1) := by decide +kernel
theorem dX3_fieldAt_12 : decode cX3_fieldAt 12 = .ok (.getfield 11, 3) := by decide +kernel
theorem dX3_fieldAt_15 : decode cX3_fieldAt 15 = .ok (.iconst 0, 1) := by decide +kernel
theorem dX3_fieldAt_16 : decode cX3_fieldAt 16 = .ok (.aaload, 1) := by decide +kernel
theorem dX3_fieldAt_17 : decode cX3_fieldAt 17 = .ok (.iload_n 3, 1) := by decide +kernel
theorem dX3_fieldAt_18 : decode cX3_fieldAt 18 = .ok (.iaload, 1) := by decide +kernel
theorem dX3_fieldAt_19 : decode cX3_fieldAt 19 = .ok (.isub, 1) := by decide +kernel
theorem dX3_fieldAt_20 : decode cX3_fieldAt 20 = .ok (.istore 4, 2) := by decide +kernel
theorem dX3_fieldAt_22 : decode cX3_fieldAt 22 = .ok (.iload_n 2, 1) := by decide +kernel
theorem dX3_fieldAt_23 : decode cX3_fieldAt 23 = .ok (.aload_n 0, 1) := by decide +kernel
theorem dX3_fieldAt_24 : decode cX3_fieldAt 24 = .ok (.getfield 11, 3) := by decide +kernel
theorem dX3_fieldAt_27 : decode cX3_fieldAt 27 = .ok (.iconst 1, 1) := by decide +kernel
theorem dX3_fieldAt_28 : decode cX3_fieldAt 28 = .ok (.aaload, 1) := by decide +kernel
theorem dX3_fieldAt_29 : decode cX3_fieldAt 29 = .ok (.iload_n 3, 1) := by decide +kernel
theorem dX3_fieldAt_30 : decode cX3_fieldAt 30 = .ok (.iaload, 1) := by decide +kernel
theorem dX3_fieldAt_31 : decode cX3_fieldAt 31 = .ok (.isub, 1) := by decide +kernel
theorem dX3_fieldAt_32 : decode cX3_fieldAt 32 = .ok (.istore 5, 2) := by decide +kernel
theorem dX3_fieldAt_34 : decode cX3_fieldAt 34 = .ok (.iload 4, 2) := by decide +kernel
theorem dX3_fieldAt_36 : decode cX3_fieldAt 36 = .ok (.ifCond .lt 36, 3) := by decide +kernel
theorem dX3_fieldAt_39 : decode cX3_fieldAt 39 = .ok (.iload 4, 2) := by decide +kernel
theorem dX3_fieldAt_41 : decode cX3_fieldAt 41 = .ok (.aload_n 0, 1) := by decide +kernel
theorem dX3_fieldAt_42 : decode cX3_fieldAt 42 = .ok (.getfield 11, 3) := by decide +kernel
theorem dX3_fieldAt_45 : decode cX3_fieldAt 45 = .ok (.iconst 2, 1) := by decide +kernel
theorem dX3_fieldAt_46 : decode cX3_fieldAt 46 = .ok (.aaload, 1) := by decide +kernel
theorem dX3_fieldAt_47 : decode cX3_fieldAt 47 = .ok (.iload_n 3, 1) := by decide +kernel
theorem dX3_fieldAt_48 : decode cX3_fieldAt 48 = .ok (.iaload, 1) := by decide +kernel
theorem dX3_fieldAt_49 : decode cX3_fieldAt 49 = .ok (.if_icmp .ge 23, 3) := by decide +kernel
theorem dX3_fieldAt_52 : decode cX3_fieldAt 52 = .ok (.iload 5, 2) := by decide +kernel
theorem dX3_fieldAt_54 : decode cX3_fieldAt 54 = .ok (.ifCond .lt 18, 3) := by decide +kernel
theorem dX3_fieldAt_57 : decode cX3_fieldAt 57 = .ok (.iload 5, 2) := by decide +kernel
theorem dX3_fieldAt_59 : decode cX3_fieldAt 59 = .ok (.aload_n 0, 1) := by decide +kernel
theorem dX3_fieldAt_60 : decode cX3_fieldAt 60 = .ok (.getfield 11, 3) := by decide +kernel
theorem dX3_fieldAt_63 : decode cX3_fieldAt 63 = .ok (.iconst 3, 1) := by decide +kernel
theorem dX3_fieldAt_64 : decode cX3_fieldAt 64 = .ok (.aaload, 1) := by decide +kernel
theorem dX3_fieldAt_65 : decode cX3_fieldAt 65 = .ok (.iload_n 3, 1) := by decide +kernel
theorem dX3_fieldAt_66 : decode cX3_fieldAt 66 = .ok (.iaload, 1) := by decide +kernel
theorem dX3_fieldAt_67 : decode cX3_fieldAt 67 = .ok (.if_icmp .ge 5, 3) := by decide +kernel
theorem dX3_fieldAt_70 : decode cX3_fieldAt 70 = .ok (.iload_n 3, 1) := by decide +kernel
theorem dX3_fieldAt_71 : decode cX3_fieldAt 71 = .ok (.ireturn, 1) := by decide +kernel
theorem dX3_fieldAt_72 : decode cX3_fieldAt 72 = .ok (.iinc 3 1, 3) := by decide +kernel
theorem dX3_fieldAt_75 : decode cX3_fieldAt 75 = .ok (.goto (-73), 3) := by decide +kernel
theorem dX3_fieldAt_78 : decode cX3_fieldAt 78 = .ok (.iconst (-1), 1) := by decide +kernel
theorem dX3_fieldAt_79 : decode cX3_fieldAt 79 = .ok (.ireturn, 1) := by decide +kernel
theorem ok_yX3_fieldAt : yOk yX3_fieldAt 2 := ⟨by decide +kernel, by decide +kernel, by decide +kernel⟩
def fX3_fieldAt_2 (n : Nat) (st : St) : Nat → Int32 → Int32 → Int32 → Option (Int32)
  | 0, _, _, _ => none
  | k + 1, v1, v2, v3 => if gI st 1 1 ≤ v3 then (some (-1 : Int32)) else (gd (inB v3 13) (bnd (v1 - (gI st 3 v3.toNatClampNeg)) (fun x3 => gd (inB v3 13) (bnd (v2 - (gI st 4 v3.toNatClampNeg)) (fun x6 => if x3 < 0 then (bnd (v3 + (1 : Int32)) (fun x9 => fX3_fieldAt_2 n st k v1 v2 x9)) else (gd (inB v3 13) (if gI st 5 v3.toNatClampNeg ≤ x3 then (bnd (v3 + (1 : Int32)) (fun x13 => fX3_fieldAt_2 n st k v1 v2 x13)) else (if x6 < 0 then (bnd (v3 + (1 : Int32)) (fun x16 => fX3_fieldAt_2 n st k v1 v2 x16)) else (gd (inB v3 13) (if gI st 6 v3.toNatClampNeg ≤ x6 then (bnd (v3 + (1 : Int32)) (fun x20 => fX3_fieldAt_2 n st k v1 v2 x20)) else (some v3)))))))))))
set_option maxHeartbeats 4000000 in
theorem tX3_fieldAt_2 {p : Program} {l : Launch} {e : Env} {s : State} {m : MethodId} {args : Array Value} {below : List Frame} {meth : Method} {c : Code} {X : WX} (C : Amb 65 X p s m args meth c cX3_fieldAt 6 RX3) (hr : meth.sig.returnType = some .int) {R : Int32} {n : Nat} {st : St} : ∀ (k : Nat) (v1 : Int32) (v2 : Int32) (v3 : Int32) (H : Heap) (locs : List Loc) (ls : Array Slot), Wd EC 65 X s.heap st H locs → lv_has ls 6 [(0, .ref (xq X 1)), (1, .int v1), (2, .int v2), (3, .int v3)] → fX3_fieldAt_2 n st k v1 v2 v3 = some R → W p l e { frames := 0, cells := 0, slots := 0, locals := 0 } s m args below meth c H locs 0 0 (QI EC 65 X R st below args s) (F0 m 2 ls []) := by
  obtain ⟨hx, hb, hml, hown, hts⟩ := id C.1
  intro k
  induction k with
  | zero => intro v1 v2 v3 H locs ls  hw hl hf; exact absurd (show none = some R from hf) (fun z => by cases z)
  | succ k ih =>
    intro v1 v2 v3 H locs ls  hw hl hf
    rw [fX3_fieldAt_2] at hf
    refine lv_iload_n hx hb dX3_fieldAt_2 rfl (lv_at hl 3 rfl) ?_
    refine lv_aload_n hx hb dX3_fieldAt_3 rfl (lv_at hl 0 rfl) ?_
    refine w_get (T := TX3) C hw (by decide) 1 kf_X3_16 (EC_1 X _ _) rfl inA3 (by decide) rfl dX3_fieldAt_4 ?_
    refine lv_icmp_ge (tgt := 78) hx hb dX3_fieldAt_7 (by decide) (fun c1 => ?_) (fun c1 => ?_)
    · replace hf := ite_t hf c1
      refine lv_iconst (v := -1) hx hb dX3_fieldAt_78 (by decide) ?_
      exact w_iret C hw hr (Option.some.inj hf) rfl dX3_fieldAt_79
    · replace hf := ite_f hf c1
      refine lv_iload_n hx hb dX3_fieldAt_10 rfl (lv_at hl 1 rfl) ?_
      refine lv_aload_n hx hb dX3_fieldAt_11 rfl (lv_at hl 0 rfl) ?_
      refine w_get (T := TX3) C hw (by decide) 0 kf_X3_11 (EC_1 X _ _) rfl inA3 (by decide) rfl dX3_fieldAt_12 ?_
      refine lv_iconst (v := 0) hx hb dX3_fieldAt_15 (by decide) ?_
      refine w_aald (k' := 3) C hw (by decide) (EC_2 X _ _) rfl rfl (by decide) rfl dX3_fieldAt_16 ?_
      refine lv_iload_n hx hb dX3_fieldAt_17 rfl (lv_at hl 3 rfl) ?_
      obtain ⟨h2, hf⟩ := gd_some hf
      refine w_iald C hw (by decide) (EC_3 X _ _) h2 rfl dX3_fieldAt_18 ?_
      refine lv_isub hx hb dX3_fieldAt_19 ?_
      refine lv_topi (fun x3 e4 => ?_)
      replace hf := bnd_nm hf e4
      refine lv_istore (lv' := [(4, .int x3), (0, .ref (xq X 1)), (1, .int v1), (2, .int v2), (3, .int v3)]) hx hb dX3_fieldAt_20 hl (by decide) rfl (fun ls hl => ?_)
      refine lv_iload_n hx hb dX3_fieldAt_22 rfl (lv_at hl 3 rfl) ?_
      refine lv_aload_n hx hb dX3_fieldAt_23 rfl (lv_at hl 1 rfl) ?_
      refine w_get (T := TX3) C hw (by decide) 0 kf_X3_11 (EC_1 X _ _) rfl inA3 (by decide) rfl dX3_fieldAt_24 ?_
      refine lv_iconst (v := 1) hx hb dX3_fieldAt_27 (by decide) ?_
      refine w_aald (k' := 4) C hw (by decide) (EC_2 X _ _) rfl rfl (by decide) rfl dX3_fieldAt_28 ?_
      refine lv_iload_n hx hb dX3_fieldAt_29 rfl (lv_at hl 4 rfl) ?_
      obtain ⟨h5, hf⟩ := gd_some hf
      refine w_iald C hw (by decide) (EC_4 X _ _) h5 rfl dX3_fieldAt_30 ?_
      refine lv_isub hx hb dX3_fieldAt_31 ?_
      refine lv_topi (fun x6 e7 => ?_)
      replace hf := bnd_nm hf e7
      refine lv_istore (lv' := [(5, .int x6), (4, .int x3), (0, .ref (xq X 1)), (1, .int v1), (2, .int v2), (3, .int v3)]) hx hb dX3_fieldAt_32 hl (by decide) rfl (fun ls hl => ?_)
      refine lv_iload hx hb dX3_fieldAt_34 (lv_at hl 1 rfl) ?_
      refine lv_if_lt (tgt := 72) hx hb dX3_fieldAt_36 (by decide) (fun c8 => ?_) (fun c8 => ?_)
      · replace hf := ite_t hf c8
        obtain ⟨x9, e10⟩ : ∃ z : Int32, z = v3 + (1 : Int32) := ⟨_, rfl⟩
        replace hf := bnd_nm hf e10
        refine lv_iinc (v := x9) (lv' := [(3, .int x9), (5, .int x6), (4, .int x3), (0, .ref (xq X 1)), (1, .int v1), (2, .int v2)]) hx hb dX3_fieldAt_72 hl (k := 5) rfl (by rw [e10]; rfl) (by decide) rfl (fun ls hl => ?_)
        refine lv_goto (tgt := 2) hx hb dX3_fieldAt_75 (by decide) ?_
        exact ih v1 v2 x9 _ _ _ hw (lv_sub hl [3, 4, 5, 0] rfl) hf
      · replace hf := ite_f hf c8
        refine lv_iload hx hb dX3_fieldAt_39 (lv_at hl 1 rfl) ?_
        refine lv_aload_n hx hb dX3_fieldAt_41 rfl (lv_at hl 2 rfl) ?_
        refine w_get (T := TX3) C hw (by decide) 0 kf_X3_11 (EC_1 X _ _) rfl inA3 (by decide) rfl dX3_fieldAt_42 ?_
        refine lv_iconst (v := 2) hx hb dX3_fieldAt_45 (by decide) ?_
        refine w_aald (k' := 5) C hw (by decide) (EC_2 X _ _) rfl rfl (by decide) rfl dX3_fieldAt_46 ?_
        refine lv_iload_n hx hb dX3_fieldAt_47 rfl (lv_at hl 5 rfl) ?_
        obtain ⟨h11, hf⟩ := gd_some hf
        refine w_iald C hw (by decide) (EC_5 X _ _) h11 rfl dX3_fieldAt_48 ?_
        refine lv_icmp_ge (tgt := 72) hx hb dX3_fieldAt_49 (by decide) (fun c12 => ?_) (fun c12 => ?_)
        · replace hf := ite_t hf c12
          obtain ⟨x13, e14⟩ : ∃ z : Int32, z = v3 + (1 : Int32) := ⟨_, rfl⟩
          replace hf := bnd_nm hf e14
          refine lv_iinc (v := x13) (lv' := [(3, .int x13), (5, .int x6), (4, .int x3), (0, .ref (xq X 1)), (1, .int v1), (2, .int v2)]) hx hb dX3_fieldAt_72 hl (k := 5) rfl (by rw [e14]; rfl) (by decide) rfl (fun ls hl => ?_)
          refine lv_goto (tgt := 2) hx hb dX3_fieldAt_75 (by decide) ?_
          exact ih v1 v2 x13 _ _ _ hw (lv_sub hl [3, 4, 5, 0] rfl) hf
        · replace hf := ite_f hf c12
          refine lv_iload hx hb dX3_fieldAt_52 (lv_at hl 0 rfl) ?_
          refine lv_if_lt (tgt := 72) hx hb dX3_fieldAt_54 (by decide) (fun c15 => ?_) (fun c15 => ?_)
          · replace hf := ite_t hf c15
            obtain ⟨x16, e17⟩ : ∃ z : Int32, z = v3 + (1 : Int32) := ⟨_, rfl⟩
            replace hf := bnd_nm hf e17
            refine lv_iinc (v := x16) (lv' := [(3, .int x16), (5, .int x6), (4, .int x3), (0, .ref (xq X 1)), (1, .int v1), (2, .int v2)]) hx hb dX3_fieldAt_72 hl (k := 5) rfl (by rw [e17]; rfl) (by decide) rfl (fun ls hl => ?_)
            refine lv_goto (tgt := 2) hx hb dX3_fieldAt_75 (by decide) ?_
            exact ih v1 v2 x16 _ _ _ hw (lv_sub hl [3, 4, 5, 0] rfl) hf
          · replace hf := ite_f hf c15
            refine lv_iload hx hb dX3_fieldAt_57 (lv_at hl 0 rfl) ?_
            refine lv_aload_n hx hb dX3_fieldAt_59 rfl (lv_at hl 2 rfl) ?_
            refine w_get (T := TX3) C hw (by decide) 0 kf_X3_11 (EC_1 X _ _) rfl inA3 (by decide) rfl dX3_fieldAt_60 ?_
            refine lv_iconst (v := 3) hx hb dX3_fieldAt_63 (by decide) ?_
            refine w_aald (k' := 6) C hw (by decide) (EC_2 X _ _) rfl rfl (by decide) rfl dX3_fieldAt_64 ?_
            refine lv_iload_n hx hb dX3_fieldAt_65 rfl (lv_at hl 5 rfl) ?_
            obtain ⟨h18, hf⟩ := gd_some hf
            refine w_iald C hw (by decide) (EC_6 X _ _) h18 rfl dX3_fieldAt_66 ?_
            refine lv_icmp_ge (tgt := 72) hx hb dX3_fieldAt_67 (by decide) (fun c19 => ?_) (fun c19 => ?_)
            · replace hf := ite_t hf c19
              obtain ⟨x20, e21⟩ : ∃ z : Int32, z = v3 + (1 : Int32) := ⟨_, rfl⟩
              replace hf := bnd_nm hf e21
              refine lv_iinc (v := x20) (lv' := [(3, .int x20), (5, .int x6), (4, .int x3), (0, .ref (xq X 1)), (1, .int v1), (2, .int v2)]) hx hb dX3_fieldAt_72 hl (k := 5) rfl (by rw [e21]; rfl) (by decide) rfl (fun ls hl => ?_)
              refine lv_goto (tgt := 2) hx hb dX3_fieldAt_75 (by decide) ?_
              exact ih v1 v2 x20 _ _ _ hw (lv_sub hl [3, 4, 5, 0] rfl) hf
            · replace hf := ite_f hf c19
              refine lv_iload_n hx hb dX3_fieldAt_70 rfl (lv_at hl 5 rfl) ?_
              exact w_iret C hw hr (Option.some.inj hf) rfl dX3_fieldAt_71
def fX3_fieldAt (n : Nat) (st : St) (a1 : Int32) (a2 : Int32) : Option (Int32) := fX3_fieldAt_2 n st n a1 a2 (0 : Int32)
set_option maxHeartbeats 4000000 in
theorem zX3_fieldAt (l : Launch) (X : WX) (n : Nat) (st : St) (a1 : Int32) (a2 : Int32) (R : Int32) (hf : fX3_fieldAt n st a1 a2 = some R) : CtI l yX3_fieldAt cX3_fieldAt 6 .int ({ frames := 0, cells := 0, slots := 0, locals := 0 }) EC 65 X [.ref (xq X 1), .int a1, .int a2] st R st := by
  refine ct_in (own := RX3) (by decide +kernel) rfl (Nat.le_of_ble_eq_true rfl) (fun p e s m below meth c C hr hw ls hl => ?_)
  obtain ⟨hx, hb, hml, hown, hts⟩ := id C.1
  have hl : lv_has ls 6 [(0, .ref (xq X 1)), (1, .int a1), (2, .int a2)] := hl
  unfold fX3_fieldAt at hf
  refine lv_iconst (v := 0) hx hb dX3_fieldAt_0 (by decide) ?_
  refine lv_istore_n (lv' := [(3, .int (0 : Int32)), (0, .ref (xq X 1)), (1, .int a1), (2, .int a2)]) hx hb dX3_fieldAt_1 rfl hl (by decide) rfl (fun ls hl => ?_)
  exact tX3_fieldAt_2 C hr n a1 a2 (0 : Int32) _ _ _ hw (lv_sub hl [1, 2, 3, 0] rfl) hf
theorem dX3_fieldUnder_0 : decode cX3_fieldUnder 0 = .ok (.aload_n 0, 1) := by decide +kernel
theorem dX3_fieldUnder_1 : decode cX3_fieldUnder 1 = .ok (.aload_n 0, 1) := by decide +kernel
theorem dX3_fieldUnder_2 : decode cX3_fieldUnder 2 = .ok (.getfield 11, 3) := by decide +kernel
theorem dX3_fieldUnder_5 : decode cX3_fieldUnder 5 = .ok (.bipush 6, 2) := by decide +kernel
theorem dX3_fieldUnder_7 : decode cX3_fieldUnder 7 = .ok (.aaload, 1) := by decide +kernel
theorem dX3_fieldUnder_8 : decode cX3_fieldUnder 8 = .ok (.iload_n 1, 1) := by decide +kernel
theorem dX3_fieldUnder_9 : decode cX3_fieldUnder 9 = .ok (.iaload, 1) := by decide +kernel
theorem dX3_fieldUnder_10 : decode cX3_fieldUnder 10 = .ok (.aload_n 0, 1) := by decide +kernel
theorem dX3_fieldUnder_11 : decode cX3_fieldUnder 11 = .ok (.getfield 11, 3) := by decide +kernel
theorem dX3_fieldUnder_14 : decode cX3_fieldUnder 14 = .ok (.bipush 7, 2) := by decide +kernel
theorem dX3_fieldUnder_16 : decode cX3_fieldUnder 16 = .ok (.aaload, 1) := by decide +kernel
theorem dX3_fieldUnder_17 : decode cX3_fieldUnder 17 = .ok (.iload_n 1, 1) := by decide +kernel
theorem dX3_fieldUnder_18 : decode cX3_fieldUnder 18 = .ok (.iaload, 1) := by decide +kernel
theorem dX3_fieldUnder_19 : decode cX3_fieldUnder 19 = .ok (.invokevirtual 34, 3) := by decide +kernel
theorem dX3_fieldUnder_22 : decode cX3_fieldUnder 22 = .ok (.ireturn, 1) := by decide +kernel
theorem ok_yX3_fieldUnder : yOk yX3_fieldUnder 1 := ⟨by decide +kernel, by decide +kernel, by decide +kernel⟩
def fX3_fieldUnder (n : Nat) (st : St) (a1 : Int32) : Option (Int32) := gd (inB a1 13) (gd (inB a1 13) ((fX3_fieldAt n st (gI st 9 a1.toNatClampNeg) (gI st 10 a1.toNatClampNeg)).bind (fun r3 => some r3)))
set_option maxHeartbeats 4000000 in
theorem zX3_fieldUnder (l : Launch) (X : WX) (n : Nat) (st : St) (a1 : Int32) (R : Int32) (hf : fX3_fieldUnder n st a1 = some R) : CtI l yX3_fieldUnder cX3_fieldUnder 2 .int ({ frames := 1, cells := 0, slots := 0, locals := 25 }) EC 65 X [.ref (xq X 1), .int a1] st R st := by
  refine ct_in (own := RX3) (by decide +kernel) rfl (Nat.le_of_ble_eq_true rfl) (fun p e s m below meth c C hr hw ls hl => ?_)
  obtain ⟨hx, hb, hml, hown, hts⟩ := id C.1
  have hl : lv_has ls 2 [(0, .ref (xq X 1)), (1, .int a1)] := hl
  unfold fX3_fieldUnder at hf
  refine lv_aload_n hx hb dX3_fieldUnder_0 rfl (lv_at hl 0 rfl) ?_
  refine lv_aload_n hx hb dX3_fieldUnder_1 rfl (lv_at hl 0 rfl) ?_
  refine w_get (T := TX3) C hw (by decide) 0 kf_X3_11 (EC_1 X _ _) rfl inA3 (by decide) rfl dX3_fieldUnder_2 ?_
  refine lv_bipush (v := 6) hx hb dX3_fieldUnder_5 (by decide) ?_
  refine w_aald (k' := 9) C hw (by decide) (EC_2 X _ _) rfl rfl (by decide) rfl dX3_fieldUnder_7 ?_
  refine lv_iload_n hx hb dX3_fieldUnder_8 rfl (lv_at hl 1 rfl) ?_
  obtain ⟨h1, hf⟩ := gd_some hf
  refine w_iald C hw (by decide) (EC_9 X _ _) h1 rfl dX3_fieldUnder_9 ?_
  refine lv_aload_n hx hb dX3_fieldUnder_10 rfl (lv_at hl 0 rfl) ?_
  refine w_get (T := TX3) C hw (by decide) 0 kf_X3_11 (EC_1 X _ _) rfl inA3 (by decide) rfl dX3_fieldUnder_11 ?_
  refine lv_bipush (v := 7) hx hb dX3_fieldUnder_14 (by decide) ?_
  refine w_aald (k' := 10) C hw (by decide) (EC_2 X _ _) rfl rfl (by decide) rfl dX3_fieldUnder_16 ?_
  refine lv_iload_n hx hb dX3_fieldUnder_17 rfl (lv_at hl 1 rfl) ?_
  obtain ⟨h2, hf⟩ := gd_some hf
  refine w_iald C hw (by decide) (EC_10 X _ _) h2 rfl dX3_fieldUnder_18 ?_
  obtain ⟨r3, k4, hf⟩ := bd_some hf
  refine w_goI hw (w_runV (rest := []) C hw (zX3_fieldAt _ _ n st (gI st 9 a1.toNatClampNeg) (gI st 10 a1.toNatClampNeg) r3 k4) (by decide) (EC_1 X _ _) rfl km_X3_34 ki_yX3_fieldAt kv_X3_fieldAt kz_X3 kc_X3_fieldAt rfl ok_yX3_fieldAt ⟨Nat.le_of_ble_eq_true rfl, Nat.le_of_ble_eq_true rfl⟩ rfl rfl rfl rfl hl.1 (Nat.le_of_ble_eq_true rfl) dX3_fieldUnder_19 ⟨Nat.zero_le _, Nat.zero_le _⟩) (fun H locs hw => ?_)
  exact w_iret C hw hr (Option.some.inj hf) rfl dX3_fieldUnder_22
theorem dX3_ownerOf_0 : decode cX3_ownerOf 0 = .ok (.iload_n 1, 1) := by decide +kernel
theorem dX3_ownerOf_1 : decode cX3_ownerOf 1 = .ok (.ifCond .ge 7, 3) := by decide +kernel
theorem dX3_ownerOf_4 : decode cX3_ownerOf 4 = .ok (.iconst (-1), 1) := by decide +kernel
theorem dX3_ownerOf_5 : decode cX3_ownerOf 5 = .ok (.goto 11, 3) := by decide +kernel
theorem dX3_ownerOf_8 : decode cX3_ownerOf 8 = .ok (.aload_n 0, 1) := by decide +kernel
theorem dX3_ownerOf_9 : decode cX3_ownerOf 9 = .ok (.getfield 11, 3) := by decide +kernel
theorem dX3_ownerOf_12 : decode cX3_ownerOf 12 = .ok (.iconst 4, 1) := by decide +kernel
theorem dX3_ownerOf_13 : decode cX3_ownerOf 13 = .ok (.aaload, 1) := by decide +kernel
theorem dX3_ownerOf_14 : decode cX3_ownerOf 14 = .ok (.iload_n 1, 1) := by decide +kernel
theorem dX3_ownerOf_15 : decode cX3_ownerOf 15 = .ok (.iaload, 1) := by decide +kernel
theorem dX3_ownerOf_16 : decode cX3_ownerOf 16 = .ok (.ireturn, 1) := by decide +kernel
theorem ok_yX3_ownerOf : yOk yX3_ownerOf 1 := ⟨by decide +kernel, by decide +kernel, by decide +kernel⟩
def fX3_ownerOf (st : St) (a1 : Int32) : Option (Int32) := if 0 ≤ a1 then (gd (inB a1 13) (some (gI st 7 a1.toNatClampNeg))) else (some (-1 : Int32))
set_option maxHeartbeats 4000000 in
theorem zX3_ownerOf (l : Launch) (X : WX) (st : St) (a1 : Int32) (R : Int32) (hf : fX3_ownerOf st a1 = some R) : CtI l yX3_ownerOf cX3_ownerOf 2 .int ({ frames := 0, cells := 0, slots := 0, locals := 0 }) EC 65 X [.ref (xq X 1), .int a1] st R st := by
  refine ct_in (own := RX3) (by decide +kernel) rfl (Nat.le_of_ble_eq_true rfl) (fun p e s m below meth c C hr hw ls hl => ?_)
  obtain ⟨hx, hb, hml, hown, hts⟩ := id C.1
  have hl : lv_has ls 2 [(0, .ref (xq X 1)), (1, .int a1)] := hl
  unfold fX3_ownerOf at hf
  refine lv_iload_n hx hb dX3_ownerOf_0 rfl (lv_at hl 1 rfl) ?_
  refine lv_if_ge (tgt := 8) hx hb dX3_ownerOf_1 (by decide) (fun c1 => ?_) (fun c1 => ?_)
  · replace hf := ite_t hf c1
    refine lv_aload_n hx hb dX3_ownerOf_8 rfl (lv_at hl 0 rfl) ?_
    refine w_get (T := TX3) C hw (by decide) 0 kf_X3_11 (EC_1 X _ _) rfl inA3 (by decide) rfl dX3_ownerOf_9 ?_
    refine lv_iconst (v := 4) hx hb dX3_ownerOf_12 (by decide) ?_
    refine w_aald (k' := 7) C hw (by decide) (EC_2 X _ _) rfl rfl (by decide) rfl dX3_ownerOf_13 ?_
    refine lv_iload_n hx hb dX3_ownerOf_14 rfl (lv_at hl 1 rfl) ?_
    obtain ⟨h2, hf⟩ := gd_some hf
    refine w_iald C hw (by decide) (EC_7 X _ _) h2 rfl dX3_ownerOf_15 ?_
    exact w_iret C hw hr (Option.some.inj hf) rfl dX3_ownerOf_16
  · replace hf := ite_f hf c1
    refine lv_iconst (v := -1) hx hb dX3_ownerOf_4 (by decide) ?_
    refine lv_goto (tgt := 16) hx hb dX3_ownerOf_5 (by decide) ?_
    exact w_iret C hw hr (Option.some.inj hf) rfl dX3_ownerOf_16
theorem dX3_thinkOf_0 : decode cX3_thinkOf 0 = .ok (.aload_n 0, 1) := by decide +kernel
theorem dX3_thinkOf_1 : decode cX3_thinkOf 1 = .ok (.bipush 12, 2) := by decide +kernel
theorem dX3_thinkOf_3 : decode cX3_thinkOf 3 = .ok (.aload_n 0, 1) := by decide +kernel
theorem dX3_thinkOf_4 : decode cX3_thinkOf 4 = .ok (.getfield 11, 3) := by decide +kernel
theorem dX3_thinkOf_7 : decode cX3_thinkOf 7 = .ok (.bipush 10, 2) := by decide +kernel
theorem dX3_thinkOf_9 : decode cX3_thinkOf 9 = .ok (.aaload, 1) := by decide +kernel
theorem dX3_thinkOf_10 : decode cX3_thinkOf 10 = .ok (.iload_n 1, 1) := by decide +kernel
theorem dX3_thinkOf_11 : decode cX3_thinkOf 11 = .ok (.iaload, 1) := by decide +kernel
theorem dX3_thinkOf_12 : decode cX3_thinkOf 12 = .ok (.aload_n 0, 1) := by decide +kernel
theorem dX3_thinkOf_13 : decode cX3_thinkOf 13 = .ok (.getfield 11, 3) := by decide +kernel
theorem dX3_thinkOf_16 : decode cX3_thinkOf 16 = .ok (.bipush 11, 2) := by decide +kernel
theorem dX3_thinkOf_18 : decode cX3_thinkOf 18 = .ok (.aaload, 1) := by decide +kernel
theorem dX3_thinkOf_19 : decode cX3_thinkOf 19 = .ok (.iload_n 1, 1) := by decide +kernel
theorem dX3_thinkOf_20 : decode cX3_thinkOf 20 = .ok (.iaload, 1) := by decide +kernel
theorem dX3_thinkOf_21 : decode cX3_thinkOf 21 = .ok (.aload_n 0, 1) := by decide +kernel
theorem dX3_thinkOf_22 : decode cX3_thinkOf 22 = .ok (.getfield 11, 3) := by decide +kernel
theorem dX3_thinkOf_25 : decode cX3_thinkOf 25 = .ok (.bipush 12, 2) := by decide +kernel
theorem dX3_thinkOf_27 : decode cX3_thinkOf 27 = .ok (.aaload, 1) := by decide +kernel
theorem dX3_thinkOf_28 : decode cX3_thinkOf 28 = .ok (.iload_n 1, 1) := by decide +kernel
theorem dX3_thinkOf_29 : decode cX3_thinkOf 29 = .ok (.iaload, 1) := by decide +kernel
theorem dX3_thinkOf_30 : decode cX3_thinkOf 30 = .ok (.aload_n 0, 1) := by decide +kernel
theorem dX3_thinkOf_31 : decode cX3_thinkOf 31 = .ok (.getfield 11, 3) := by decide +kernel
theorem dX3_thinkOf_34 : decode cX3_thinkOf 34 = .ok (.bipush 13, 2) := by decide +kernel
theorem dX3_thinkOf_36 : decode cX3_thinkOf 36 = .ok (.aaload, 1) := by decide +kernel
theorem dX3_thinkOf_37 : decode cX3_thinkOf 37 = .ok (.iload_n 1, 1) := by decide +kernel
theorem dX3_thinkOf_38 : decode cX3_thinkOf 38 = .ok (.iaload, 1) := by decide +kernel
theorem dX3_thinkOf_39 : decode cX3_thinkOf 39 = .ok (.invokevirtual 30, 3) := by decide +kernel
theorem dX3_thinkOf_42 : decode cX3_thinkOf 42 = .ok (.return_, 1) := by decide +kernel
theorem ok_yX3_thinkOf : yOk yX3_thinkOf 1 := ⟨by decide +kernel, by decide +kernel, by decide +kernel⟩
def fX3_thinkOf (st : St) (a1 : Int32) : Option (St) := gd (inB a1 13) (gd (inB a1 13) (gd (inB a1 13) (gd (inB a1 13) ((fX3_placeCry st (12 : Int32) (gI st 13 a1.toNatClampNeg) (gI st 14 a1.toNatClampNeg) (gI st 15 a1.toNatClampNeg) (gI st 16 a1.toNatClampNeg)).bind (fun r5 => some r5)))))
set_option maxHeartbeats 4000000 in
theorem zX3_thinkOf (l : Launch) (X : WX) (st : St) (a1 : Int32) (R : St) (hf : fX3_thinkOf st a1 = some R) : CtV l yX3_thinkOf cX3_thinkOf 2 ({ frames := 1, cells := 0, slots := 0, locals := 25 }) EC 65 X [.ref (xq X 1), .int a1] st R := by
  refine ct_in (own := RX3) (by decide +kernel) rfl (Nat.le_of_ble_eq_true rfl) (fun p e s m below meth c C hr hw ls hl => ?_)
  obtain ⟨hx, hb, hml, hown, hts⟩ := id C.1
  have hl : lv_has ls 2 [(0, .ref (xq X 1)), (1, .int a1)] := hl
  unfold fX3_thinkOf at hf
  refine lv_aload_n hx hb dX3_thinkOf_0 rfl (lv_at hl 0 rfl) ?_
  refine lv_bipush (v := 12) hx hb dX3_thinkOf_1 (by decide) ?_
  refine lv_aload_n hx hb dX3_thinkOf_3 rfl (lv_at hl 0 rfl) ?_
  refine w_get (T := TX3) C hw (by decide) 0 kf_X3_11 (EC_1 X _ _) rfl inA3 (by decide) rfl dX3_thinkOf_4 ?_
  refine lv_bipush (v := 10) hx hb dX3_thinkOf_7 (by decide) ?_
  refine w_aald (k' := 13) C hw (by decide) (EC_2 X _ _) rfl rfl (by decide) rfl dX3_thinkOf_9 ?_
  refine lv_iload_n hx hb dX3_thinkOf_10 rfl (lv_at hl 1 rfl) ?_
  obtain ⟨h1, hf⟩ := gd_some hf
  refine w_iald C hw (by decide) (EC_13 X _ _) h1 rfl dX3_thinkOf_11 ?_
  refine lv_aload_n hx hb dX3_thinkOf_12 rfl (lv_at hl 0 rfl) ?_
  refine w_get (T := TX3) C hw (by decide) 0 kf_X3_11 (EC_1 X _ _) rfl inA3 (by decide) rfl dX3_thinkOf_13 ?_
  refine lv_bipush (v := 11) hx hb dX3_thinkOf_16 (by decide) ?_
  refine w_aald (k' := 14) C hw (by decide) (EC_2 X _ _) rfl rfl (by decide) rfl dX3_thinkOf_18 ?_
  refine lv_iload_n hx hb dX3_thinkOf_19 rfl (lv_at hl 1 rfl) ?_
  obtain ⟨h2, hf⟩ := gd_some hf
  refine w_iald C hw (by decide) (EC_14 X _ _) h2 rfl dX3_thinkOf_20 ?_
  refine lv_aload_n hx hb dX3_thinkOf_21 rfl (lv_at hl 0 rfl) ?_
  refine w_get (T := TX3) C hw (by decide) 0 kf_X3_11 (EC_1 X _ _) rfl inA3 (by decide) rfl dX3_thinkOf_22 ?_
  refine lv_bipush (v := 12) hx hb dX3_thinkOf_25 (by decide) ?_
  refine w_aald (k' := 15) C hw (by decide) (EC_2 X _ _) rfl rfl (by decide) rfl dX3_thinkOf_27 ?_
  refine lv_iload_n hx hb dX3_thinkOf_28 rfl (lv_at hl 1 rfl) ?_
  obtain ⟨h3, hf⟩ := gd_some hf
  refine w_iald C hw (by decide) (EC_15 X _ _) h3 rfl dX3_thinkOf_29 ?_
  refine lv_aload_n hx hb dX3_thinkOf_30 rfl (lv_at hl 0 rfl) ?_
  refine w_get (T := TX3) C hw (by decide) 0 kf_X3_11 (EC_1 X _ _) rfl inA3 (by decide) rfl dX3_thinkOf_31 ?_
  refine lv_bipush (v := 13) hx hb dX3_thinkOf_34 (by decide) ?_
  refine w_aald (k' := 16) C hw (by decide) (EC_2 X _ _) rfl rfl (by decide) rfl dX3_thinkOf_36 ?_
  refine lv_iload_n hx hb dX3_thinkOf_37 rfl (lv_at hl 1 rfl) ?_
  obtain ⟨h4, hf⟩ := gd_some hf
  refine w_iald C hw (by decide) (EC_16 X _ _) h4 rfl dX3_thinkOf_38 ?_
  obtain ⟨r5, k6, hf⟩ := bd_some hf
  refine w_goV hw (w_runV (rest := []) C hw (zX3_placeCry _ _ st (12 : Int32) (gI st 13 a1.toNatClampNeg) (gI st 14 a1.toNatClampNeg) (gI st 15 a1.toNatClampNeg) (gI st 16 a1.toNatClampNeg) r5 k6) (by decide) (EC_1 X _ _) rfl km_X3_30 ki_yX3_placeCry kv_X3_placeCry kz_X3 kc_X3_placeCry rfl ok_yX3_placeCry ⟨Nat.le_of_ble_eq_true rfl, Nat.le_of_ble_eq_true rfl⟩ rfl rfl rfl rfl hl.1 (Nat.le_of_ble_eq_true rfl) dX3_thinkOf_39 ⟨Nat.zero_le _, Nat.zero_le _⟩) (fun H locs hw => ?_)
  exact w_vret C hw hr (Option.some.inj hf) dX3_thinkOf_42
