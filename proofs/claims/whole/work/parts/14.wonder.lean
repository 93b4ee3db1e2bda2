theorem dX9_hedgeMoved_0 : decode cX9_hedgeMoved 0 = .ok (.aload_n 0, 1) := by decide +kernel
theorem dX9_hedgeMoved_1 : decode cX9_hedgeMoved 1 = .ok (.getfield 26, 3) := by decide +kernel
theorem dX9_hedgeMoved_4 : decode cX9_hedgeMoved 4 = .ok (.getfield 34, 3) := by decide +kernel
theorem dX9_hedgeMoved_7 : decode cX9_hedgeMoved 7 = .ok (.iconst 2, 1) := by decide +kernel
theorem dX9_hedgeMoved_8 : decode cX9_hedgeMoved 8 = .ok (.aaload, 1) := by decide +kernel
theorem dX9_hedgeMoved_9 : decode cX9_hedgeMoved 9 = .ok (.astore 4, 2) := by decide +kernel
theorem dX9_hedgeMoved_11 : decode cX9_hedgeMoved 11 = .ok (.aload_n 0, 1) := by decide +kernel
theorem dX9_hedgeMoved_12 : decode cX9_hedgeMoved 12 = .ok (.getfield 26, 3) := by decide +kernel
theorem dX9_hedgeMoved_15 : decode cX9_hedgeMoved 15 = .ok (.getfield 34, 3) := by decide +kernel
theorem dX9_hedgeMoved_18 : decode cX9_hedgeMoved 18 = .ok (.iconst 3, 1) := by decide +kernel
theorem dX9_hedgeMoved_19 : decode cX9_hedgeMoved 19 = .ok (.aaload, 1) := by decide +kernel
theorem dX9_hedgeMoved_20 : decode cX9_hedgeMoved 20 = .ok (.astore 5, 2) := by decide +kernel
theorem dX9_hedgeMoved_22 : decode cX9_hedgeMoved 22 = .ok (.aload 4, 2) := by decide +kernel
theorem dX9_hedgeMoved_24 : decode cX9_hedgeMoved 24 = .ok (.iload_n 1, 1) := by decide +kernel
theorem dX9_hedgeMoved_25 : decode cX9_hedgeMoved 25 = .ok (.iaload, 1) := by decide +kernel
theorem dX9_hedgeMoved_26 : decode cX9_hedgeMoved 26 = .ok (.istore 6, 2) := by decide +kernel
theorem dX9_hedgeMoved_28 : decode cX9_hedgeMoved 28 = .ok (.aload 5, 2) := by decide +kernel
theorem dX9_hedgeMoved_30 : decode cX9_hedgeMoved 30 = .ok (.iload_n 1, 1) := by decide +kernel
theorem dX9_hedgeMoved_31 : decode cX9_hedgeMoved 31 = .ok (.iaload, 1) := by decide +kernel
theorem dX9_hedgeMoved_32 : decode cX9_hedgeMoved 32 = .ok (.istore 7, 2) := by decide +kernel
theorem dX9_hedgeMoved_34 : decode cX9_hedgeMoved 34 = .ok (.aload_n 0, 1) := by decide +kernel
theorem dX9_hedgeMoved_35 : decode cX9_hedgeMoved 35 = .ok (.getfield 26, 3) := by decide +kernel
theorem dX9_hedgeMoved_38 : decode cX9_hedgeMoved 38 = .ok (.iload_n 1, 1) := by decide +kernel
theorem dX9_hedgeMoved_39 : decode cX9_hedgeMoved 39 = .ok (.invokevirtual 38, 3) := by decide +kernel
theorem dX9_hedgeMoved_42 : decode cX9_hedgeMoved 42 = .ok (.istore 8, 2) := by decide +kernel
theorem dX9_hedgeMoved_44 : decode cX9_hedgeMoved 44 = .ok (.aload_n 0, 1) := by decide +kernel
theorem dX9_hedgeMoved_45 : decode cX9_hedgeMoved 45 = .ok (.getfield 30, 3) := by decide +kernel
theorem dX9_hedgeMoved_48 : decode cX9_hedgeMoved 48 = .ok (.invokevirtual 42, 3) := by decide +kernel
theorem dX9_hedgeMoved_51 : decode cX9_hedgeMoved 51 = .ok (.aload_n 0, 1) := by decide +kernel
theorem dX9_hedgeMoved_52 : decode cX9_hedgeMoved 52 = .ok (.getfield 30, 3) := by decide +kernel
theorem dX9_hedgeMoved_55 : decode cX9_hedgeMoved 55 = .ok (.iload 8, 2) := by decide +kernel
theorem dX9_hedgeMoved_57 : decode cX9_hedgeMoved 57 = .ok (.invokevirtual 47, 3) := by decide +kernel
theorem dX9_hedgeMoved_60 : decode cX9_hedgeMoved 60 = .ok (.istore 9, 2) := by decide +kernel
theorem dX9_hedgeMoved_62 : decode cX9_hedgeMoved 62 = .ok (.aload 4, 2) := by decide +kernel
theorem dX9_hedgeMoved_64 : decode cX9_hedgeMoved 64 = .ok (.iload_n 1, 1) := by decide +kernel
theorem dX9_hedgeMoved_65 : decode cX9_hedgeMoved 65 = .ok (.iload_n 2, 1) := by decide +kernel
theorem dX9_hedgeMoved_66 : decode cX9_hedgeMoved 66 = .ok (.iastore, 1) := by decide +kernel
theorem dX9_hedgeMoved_67 : decode cX9_hedgeMoved 67 = .ok (.aload 5, 2) := by decide +kernel
theorem dX9_hedgeMoved_69 : decode cX9_hedgeMoved 69 = .ok (.iload_n 1, 1) := by decide +kernel
theorem dX9_hedgeMoved_70 : decode cX9_hedgeMoved 70 = .ok (.iload_n 3, 1) := by decide +kernel
theorem dX9_hedgeMoved_71 : decode cX9_hedgeMoved 71 = .ok (.iastore, 1) := by decide +kernel
theorem dX9_hedgeMoved_72 : decode cX9_hedgeMoved 72 = .ok (.aload_n 0, 1) := by decide +kernel
theorem dX9_hedgeMoved_73 : decode cX9_hedgeMoved 73 = .ok (.getfield 30, 3) := by decide +kernel
theorem dX9_hedgeMoved_76 : decode cX9_hedgeMoved 76 = .ok (.invokevirtual 42, 3) := by decide +kernel
theorem dX9_hedgeMoved_79 : decode cX9_hedgeMoved 79 = .ok (.aload 4, 2) := by decide +kernel
theorem dX9_hedgeMoved_81 : decode cX9_hedgeMoved 81 = .ok (.iload_n 1, 1) := by decide +kernel
theorem dX9_hedgeMoved_82 : decode cX9_hedgeMoved 82 = .ok (.iload 6, 2) := by decide +kernel
theorem dX9_hedgeMoved_84 : decode cX9_hedgeMoved 84 = .ok (.iastore, 1) := by decide +kernel
theorem dX9_hedgeMoved_85 : decode cX9_hedgeMoved 85 = .ok (.aload 5, 2) := by decide +kernel
theorem dX9_hedgeMoved_87 : decode cX9_hedgeMoved 87 = .ok (.iload_n 1, 1) := by decide +kernel
theorem dX9_hedgeMoved_88 : decode cX9_hedgeMoved 88 = .ok (.iload 7, 2) := by decide +kernel
theorem dX9_hedgeMoved_90 : decode cX9_hedgeMoved 90 = .ok (.iastore, 1) := by decide +kernel
theorem dX9_hedgeMoved_91 : decode cX9_hedgeMoved 91 = .ok (.aload_n 0, 1) := by decide +kernel
theorem dX9_hedgeMoved_92 : decode cX9_hedgeMoved 92 = .ok (.getfield 30, 3) := by decide +kernel
theorem dX9_hedgeMoved_95 : decode cX9_hedgeMoved 95 = .ok (.iload 8, 2) := by decide +kernel
theorem dX9_hedgeMoved_97 : decode cX9_hedgeMoved 97 = .ok (.invokevirtual 47, 3) := by decide +kernel
theorem dX9_hedgeMoved_100 : decode cX9_hedgeMoved 100 = .ok (.iload 9, 2) := by decide +kernel
theorem dX9_hedgeMoved_102 : decode cX9_hedgeMoved 102 = .ok (.isub, 1) := by decide +kernel
theorem dX9_hedgeMoved_103 : decode cX9_hedgeMoved 103 = .ok (.ireturn, 1) := by decide +kernel
theorem ok_yX9_hedgeMoved : yOk yX9_hedgeMoved 3 := ⟨by decide +kernel, by decide +kernel, by decide +kernel⟩
def fX9_hedgeMoved (n : Nat) (st : St) (a1 : Int32) (a2 : Int32) (a3 : Int32) : Option (Int32 × St) := gd (inB a1 13) (bnd (gI st 5 a1.toNatClampNeg) (fun x2 => gd (inB a1 13) (bnd (gI st 6 a1.toNatClampNeg) (fun x5 => (fX3_ownerOf st a1).bind (fun r7 => (fX6_reckonDebts n st).bind (fun r9 => (fX6_owes n r9 r7).bind (fun r11 => gd (inB a1 13) (bnd (sI r9 5 a1.toNatClampNeg a2) (fun st14 => gd (inB a1 13) (bnd (sI st14 6 a1.toNatClampNeg a3) (fun st17 => (fX6_reckonDebts n st17).bind (fun r19 => gd (inB a1 13) (bnd (sI r19 5 a1.toNatClampNeg x2) (fun st22 => gd (inB a1 13) (bnd (sI st22 6 a1.toNatClampNeg x5) (fun st25 => (fX6_owes n st25 r7).bind (fun r27 => some ((r27 - r11), st25))))))))))))))))))
set_option maxHeartbeats 4000000 in
theorem zX9_hedgeMoved (l : Launch) (X : WX) (n : Nat) (st : St) (a1 : Int32) (a2 : Int32) (a3 : Int32) (R : Int32 × St) (hf : fX9_hedgeMoved n st a1 a2 a3 = some R) : CtI l yX9_hedgeMoved cX9_hedgeMoved 10 .int ({ frames := 6, cells := 0, slots := 0, locals := 151 }) EC 65 X [.ref (xq X 27), .int a1, .int a2, .int a3] st R.1 R.2 := by
  refine ct_in (own := RX9) (by decide +kernel) rfl (Nat.le_of_ble_eq_true rfl) (fun p e s m below meth c C hr hw ls hl => ?_)
  obtain ⟨hx, hb, hml, hown, hts⟩ := id C.1
  have hl : lv_has ls 10 [(0, .ref (xq X 27)), (1, .int a1), (2, .int a2), (3, .int a3)] := hl
  unfold fX9_hedgeMoved at hf
  refine lv_aload_n hx hb dX9_hedgeMoved_0 rfl (lv_at hl 0 rfl) ?_
  refine w_get (T := TX9) C hw (by decide) 2 kf_X9_26 (EC_27 X _ _) rfl inA9 (by decide) rfl dX9_hedgeMoved_1 ?_
  refine w_get (T := TX3) C hw (by decide) 0 kf_X9_34 (EC_1 X _ _) rfl inA3 (by decide) rfl dX9_hedgeMoved_4 ?_
  refine lv_iconst (v := 2) hx hb dX9_hedgeMoved_7 (by decide) ?_
  refine w_aald (k' := 5) C hw (by decide) (EC_2 X _ _) rfl rfl (by decide) rfl dX9_hedgeMoved_8 ?_
  refine lv_astore (lv' := [(4, .ref (xq X 5)), (0, .ref (xq X 27)), (1, .int a1), (2, .int a2), (3, .int a3)]) hx hb dX9_hedgeMoved_9 hl (by decide) rfl (fun ls hl => ?_)
  refine lv_aload_n hx hb dX9_hedgeMoved_11 rfl (lv_at hl 1 rfl) ?_
  refine w_get (T := TX9) C hw (by decide) 2 kf_X9_26 (EC_27 X _ _) rfl inA9 (by decide) rfl dX9_hedgeMoved_12 ?_
  refine w_get (T := TX3) C hw (by decide) 0 kf_X9_34 (EC_1 X _ _) rfl inA3 (by decide) rfl dX9_hedgeMoved_15 ?_
  refine lv_iconst (v := 3) hx hb dX9_hedgeMoved_18 (by decide) ?_
  refine w_aald (k' := 6) C hw (by decide) (EC_2 X _ _) rfl rfl (by decide) rfl dX9_hedgeMoved_19 ?_
  refine lv_astore (lv' := [(5, .ref (xq X 6)), (4, .ref (xq X 5)), (0, .ref (xq X 27)), (1, .int a1), (2, .int a2), (3, .int a3)]) hx hb dX9_hedgeMoved_20 hl (by decide) rfl (fun ls hl => ?_)
  refine lv_aload hx hb dX9_hedgeMoved_22 (lv_at hl 1 rfl) ?_
  refine lv_iload_n hx hb dX9_hedgeMoved_24 rfl (lv_at hl 3 rfl) ?_
  obtain ⟨h1, hf⟩ := gd_some hf
  refine w_iald C hw (by decide) (EC_5 X _ _) h1 rfl dX9_hedgeMoved_25 ?_
  refine lv_topi (fun x2 e3 => ?_)
  replace hf := bnd_nm hf e3
  refine lv_istore (lv' := [(6, .int x2), (5, .ref (xq X 6)), (4, .ref (xq X 5)), (0, .ref (xq X 27)), (1, .int a1), (2, .int a2), (3, .int a3)]) hx hb dX9_hedgeMoved_26 hl (by decide) rfl (fun ls hl => ?_)
  refine lv_aload hx hb dX9_hedgeMoved_28 (lv_at hl 1 rfl) ?_
  refine lv_iload_n hx hb dX9_hedgeMoved_30 rfl (lv_at hl 4 rfl) ?_
  obtain ⟨h4, hf⟩ := gd_some hf
  refine w_iald C hw (by decide) (EC_6 X _ _) h4 rfl dX9_hedgeMoved_31 ?_
  refine lv_topi (fun x5 e6 => ?_)
  replace hf := bnd_nm hf e6
  refine lv_istore (lv' := [(7, .int x5), (6, .int x2), (5, .ref (xq X 6)), (4, .ref (xq X 5)), (0, .ref (xq X 27)), (1, .int a1), (2, .int a2), (3, .int a3)]) hx hb dX9_hedgeMoved_32 hl (by decide) rfl (fun ls hl => ?_)
  refine lv_aload_n hx hb dX9_hedgeMoved_34 rfl (lv_at hl 4 rfl) ?_
  refine w_get (T := TX9) C hw (by decide) 2 kf_X9_26 (EC_27 X _ _) rfl inA9 (by decide) rfl dX9_hedgeMoved_35 ?_
  refine lv_iload_n hx hb dX9_hedgeMoved_38 rfl (lv_at hl 5 rfl) ?_
  obtain ⟨r7, k8, hf⟩ := bd_some hf
  refine w_goI hw (w_runV (rest := []) C hw (zX3_ownerOf _ _ st a1 r7 k8) (by decide) (EC_1 X _ _) rfl km_X9_38 ki_yX3_ownerOf kv_X3_ownerOf kz_X3 kc_X3_ownerOf rfl ok_yX3_ownerOf ⟨Nat.le_of_ble_eq_true rfl, Nat.le_of_ble_eq_true rfl⟩ rfl rfl rfl rfl hl.1 (Nat.le_of_ble_eq_true rfl) dX9_hedgeMoved_39 ⟨Nat.zero_le _, Nat.zero_le _⟩) (fun H locs hw => ?_)
  refine lv_istore (lv' := [(8, .int r7), (7, .int x5), (6, .int x2), (5, .ref (xq X 6)), (4, .ref (xq X 5)), (0, .ref (xq X 27)), (1, .int a1), (2, .int a2), (3, .int a3)]) hx hb dX9_hedgeMoved_42 hl (by decide) rfl (fun ls hl => ?_)
  refine lv_aload_n hx hb dX9_hedgeMoved_44 rfl (lv_at hl 5 rfl) ?_
  refine w_get (T := TX9) C hw (by decide) 3 kf_X9_30 (EC_27 X _ _) rfl inA9 (by decide) rfl dX9_hedgeMoved_45 ?_
  obtain ⟨r9, k10, hf⟩ := bd_some hf
  refine w_goV hw (w_runV (rest := []) C hw (zX6_reckonDebts _ _ n st r9 k10) (by decide) (EC_24 X _ _) rfl km_X9_42 ki_yX6_reckonDebts kv_X6_reckonDebts kz_X6 kc_X6_reckonDebts rfl ok_yX6_reckonDebts ⟨Nat.le_of_ble_eq_true rfl, Nat.le_of_ble_eq_true rfl⟩ rfl rfl rfl rfl hl.1 (Nat.le_of_ble_eq_true rfl) dX9_hedgeMoved_48 ⟨Nat.zero_le _, Nat.zero_le _⟩) (fun H locs hw => ?_)
  refine lv_aload_n hx hb dX9_hedgeMoved_51 rfl (lv_at hl 5 rfl) ?_
  refine w_get (T := TX9) C hw (by decide) 3 kf_X9_30 (EC_27 X _ _) rfl inA9 (by decide) rfl dX9_hedgeMoved_52 ?_
  refine lv_iload hx hb dX9_hedgeMoved_55 (lv_at hl 0 rfl) ?_
  obtain ⟨r11, k12, hf⟩ := bd_some hf
  refine w_goI hw (w_runV (rest := []) C hw (zX6_owes _ _ n r9 r7 r11 k12) (by decide) (EC_24 X _ _) rfl km_X9_47 ki_yX6_owes kv_X6_owes kz_X6 kc_X6_owes rfl ok_yX6_owes ⟨Nat.le_of_ble_eq_true rfl, Nat.le_of_ble_eq_true rfl⟩ rfl rfl rfl rfl hl.1 (Nat.le_of_ble_eq_true rfl) dX9_hedgeMoved_57 ⟨Nat.zero_le _, Nat.zero_le _⟩) (fun H locs hw => ?_)
  refine lv_istore (lv' := [(9, .int r11), (8, .int r7), (7, .int x5), (6, .int x2), (5, .ref (xq X 6)), (4, .ref (xq X 5)), (0, .ref (xq X 27)), (1, .int a1), (2, .int a2), (3, .int a3)]) hx hb dX9_hedgeMoved_60 hl (by decide) rfl (fun ls hl => ?_)
  refine lv_aload hx hb dX9_hedgeMoved_62 (lv_at hl 5 rfl) ?_
  refine lv_iload_n hx hb dX9_hedgeMoved_64 rfl (lv_at hl 7 rfl) ?_
  refine lv_iload_n hx hb dX9_hedgeMoved_65 rfl (lv_at hl 8 rfl) ?_
  obtain ⟨h13, hf⟩ := gd_some hf
  obtain ⟨st14, es15⟩ : ∃ z : St, z = sI r9 5 a1.toNatClampNeg a2 := ⟨_, rfl⟩
  replace hf := bnd_nm hf es15
  refine w_iast C hw (by decide) (fun f9 => EC_5 X f9 _) h13 rfl dX9_hedgeMoved_66 (fun H locs hw => ?_)
  rw [← es15] at hw
  refine lv_aload hx hb dX9_hedgeMoved_67 (lv_at hl 4 rfl) ?_
  refine lv_iload_n hx hb dX9_hedgeMoved_69 rfl (lv_at hl 7 rfl) ?_
  refine lv_iload_n hx hb dX9_hedgeMoved_70 rfl (lv_at hl 9 rfl) ?_
  obtain ⟨h16, hf⟩ := gd_some hf
  obtain ⟨st17, es18⟩ : ∃ z : St, z = sI st14 6 a1.toNatClampNeg a3 := ⟨_, rfl⟩
  replace hf := bnd_nm hf es18
  refine w_iast C hw (by decide) (fun f9 => EC_6 X f9 _) h16 rfl dX9_hedgeMoved_71 (fun H locs hw => ?_)
  rw [← es18] at hw
  refine lv_aload_n hx hb dX9_hedgeMoved_72 rfl (lv_at hl 6 rfl) ?_
  refine w_get (T := TX9) C hw (by decide) 3 kf_X9_30 (EC_27 X _ _) rfl inA9 (by decide) rfl dX9_hedgeMoved_73 ?_
  obtain ⟨r19, k20, hf⟩ := bd_some hf
  refine w_goV hw (w_runV (rest := []) C hw (zX6_reckonDebts _ _ n st17 r19 k20) (by decide) (EC_24 X _ _) rfl km_X9_42 ki_yX6_reckonDebts kv_X6_reckonDebts kz_X6 kc_X6_reckonDebts rfl ok_yX6_reckonDebts ⟨Nat.le_of_ble_eq_true rfl, Nat.le_of_ble_eq_true rfl⟩ rfl rfl rfl rfl hl.1 (Nat.le_of_ble_eq_true rfl) dX9_hedgeMoved_76 ⟨Nat.zero_le _, Nat.zero_le _⟩) (fun H locs hw => ?_)
  refine lv_aload hx hb dX9_hedgeMoved_79 (lv_at hl 5 rfl) ?_
  refine lv_iload_n hx hb dX9_hedgeMoved_81 rfl (lv_at hl 7 rfl) ?_
  refine lv_iload hx hb dX9_hedgeMoved_82 (lv_at hl 3 rfl) ?_
  obtain ⟨h21, hf⟩ := gd_some hf
  obtain ⟨st22, es23⟩ : ∃ z : St, z = sI r19 5 a1.toNatClampNeg x2 := ⟨_, rfl⟩
  replace hf := bnd_nm hf es23
  refine w_iast C hw (by decide) (fun f9 => EC_5 X f9 _) h21 rfl dX9_hedgeMoved_84 (fun H locs hw => ?_)
  rw [← es23] at hw
  refine lv_aload hx hb dX9_hedgeMoved_85 (lv_at hl 4 rfl) ?_
  refine lv_iload_n hx hb dX9_hedgeMoved_87 rfl (lv_at hl 7 rfl) ?_
  refine lv_iload hx hb dX9_hedgeMoved_88 (lv_at hl 2 rfl) ?_
  obtain ⟨h24, hf⟩ := gd_some hf
  obtain ⟨st25, es26⟩ : ∃ z : St, z = sI st22 6 a1.toNatClampNeg x5 := ⟨_, rfl⟩
  replace hf := bnd_nm hf es26
  refine w_iast C hw (by decide) (fun f9 => EC_6 X f9 _) h24 rfl dX9_hedgeMoved_90 (fun H locs hw => ?_)
  rw [← es26] at hw
  refine lv_aload_n hx hb dX9_hedgeMoved_91 rfl (lv_at hl 6 rfl) ?_
  refine w_get (T := TX9) C hw (by decide) 3 kf_X9_30 (EC_27 X _ _) rfl inA9 (by decide) rfl dX9_hedgeMoved_92 ?_
  refine lv_iload hx hb dX9_hedgeMoved_95 (lv_at hl 1 rfl) ?_
  obtain ⟨r27, k28, hf⟩ := bd_some hf
  refine w_goI hw (w_runV (rest := []) C hw (zX6_owes _ _ n st25 r7 r27 k28) (by decide) (EC_24 X _ _) rfl km_X9_47 ki_yX6_owes kv_X6_owes kz_X6 kc_X6_owes rfl ok_yX6_owes ⟨Nat.le_of_ble_eq_true rfl, Nat.le_of_ble_eq_true rfl⟩ rfl rfl rfl rfl hl.1 (Nat.le_of_ble_eq_true rfl) dX9_hedgeMoved_97 ⟨Nat.zero_le _, Nat.zero_le _⟩) (fun H locs hw => ?_)
  refine lv_iload hx hb dX9_hedgeMoved_100 (lv_at hl 0 rfl) ?_
  refine lv_isub hx hb dX9_hedgeMoved_102 ?_
  exact w_iret C hw hr (so2 hf).1 (so2 hf).2 dX9_hedgeMoved_103
theorem dX9_thoughtHas_0 : decode cX9_thoughtHas 0 = .ok (.aload_n 0, 1) := by decide +kernel
theorem dX9_thoughtHas_1 : decode cX9_thoughtHas 1 = .ok (.getfield 30, 3) := by decide +kernel
theorem dX9_thoughtHas_4 : decode cX9_thoughtHas 4 = .ok (.iload_n 1, 1) := by decide +kernel
theorem dX9_thoughtHas_5 : decode cX9_thoughtHas 5 = .ok (.iload_n 2, 1) := by decide +kernel
theorem dX9_thoughtHas_6 : decode cX9_thoughtHas 6 = .ok (.bipush 12, 2) := by decide +kernel
theorem dX9_thoughtHas_8 : decode cX9_thoughtHas 8 = .ok (.invokevirtual 74, 3) := by decide +kernel
theorem dX9_thoughtHas_11 : decode cX9_thoughtHas 11 = .ok (.istore_n 3, 1) := by decide +kernel
theorem dX9_thoughtHas_12 : decode cX9_thoughtHas 12 = .ok (.iload_n 3, 1) := by decide +kernel
theorem dX9_thoughtHas_13 : decode cX9_thoughtHas 13 = .ok (.ifCond .le 18, 3) := by decide +kernel
theorem dX9_thoughtHas_16 : decode cX9_thoughtHas 16 = .ok (.iload_n 3, 1) := by decide +kernel
theorem dX9_thoughtHas_17 : decode cX9_thoughtHas 17 = .ok (.aload_n 0, 1) := by decide +kernel
theorem dX9_thoughtHas_18 : decode cX9_thoughtHas 18 = .ok (.getfield 30, 3) := by decide +kernel
theorem dX9_thoughtHas_21 : decode cX9_thoughtHas 21 = .ok (.getfield 78, 3) := by decide +kernel
theorem dX9_thoughtHas_24 : decode cX9_thoughtHas 24 = .ok (.if_icmp .lt 7, 3) := by decide +kernel
theorem dX9_thoughtHas_27 : decode cX9_thoughtHas 27 = .ok (.iconst 1, 1) := by decide +kernel
theorem dX9_thoughtHas_28 : decode cX9_thoughtHas 28 = .ok (.goto 4, 3) := by decide +kernel
theorem dX9_thoughtHas_31 : decode cX9_thoughtHas 31 = .ok (.iconst 0, 1) := by decide +kernel
theorem dX9_thoughtHas_32 : decode cX9_thoughtHas 32 = .ok (.ireturn, 1) := by decide +kernel
theorem ok_yX9_thoughtHas : yOk yX9_thoughtHas 2 := ⟨by decide +kernel, by decide +kernel, by decide +kernel⟩
def fX9_thoughtHas (n : Nat) (st : St) (a1 : Int32) (a2 : Int32) : Option (Bool × St) := (fX6_countIf n st a1 a2 (12 : Int32)).bind (fun r1 => if r1.1 ≤ 0 then (some (false, r1.2)) else (if r1.1 < gI r1.2 24 1 then (some (false, r1.2)) else (some (true, r1.2))))
set_option maxHeartbeats 4000000 in
theorem zX9_thoughtHas (l : Launch) (X : WX) (n : Nat) (st : St) (a1 : Int32) (a2 : Int32) (R : Bool × St) (hf : fX9_thoughtHas n st a1 a2 = some R) : CtI l yX9_thoughtHas cX9_thoughtHas 4 .boolean ({ frames := 3, cells := 0, slots := 0, locals := 78 }) EC 65 X [.ref (xq X 27), .int a1, .int a2] st (bI R.1) R.2 := by
  refine ct_in (own := RX9) (by decide +kernel) rfl (Nat.le_of_ble_eq_true rfl) (fun p e s m below meth c C hr hw ls hl => ?_)
  obtain ⟨hx, hb, hml, hown, hts⟩ := id C.1
  have hl : lv_has ls 4 [(0, .ref (xq X 27)), (1, .int a1), (2, .int a2)] := hl
  unfold fX9_thoughtHas at hf
  refine lv_aload_n hx hb dX9_thoughtHas_0 rfl (lv_at hl 0 rfl) ?_
  refine w_get (T := TX9) C hw (by decide) 3 kf_X9_30 (EC_27 X _ _) rfl inA9 (by decide) rfl dX9_thoughtHas_1 ?_
  refine lv_iload_n hx hb dX9_thoughtHas_4 rfl (lv_at hl 1 rfl) ?_
  refine lv_iload_n hx hb dX9_thoughtHas_5 rfl (lv_at hl 2 rfl) ?_
  refine lv_bipush (v := 12) hx hb dX9_thoughtHas_6 (by decide) ?_
  obtain ⟨r1, k2, hf⟩ := bd_some hf
  refine w_goI hw (w_runV (rest := []) C hw (zX6_countIf _ _ n st a1 a2 (12 : Int32) r1 k2) (by decide) (EC_24 X _ _) rfl km_X9_74 ki_yX6_countIf kv_X6_countIf kz_X6 kc_X6_countIf rfl ok_yX6_countIf ⟨Nat.le_of_ble_eq_true rfl, Nat.le_of_ble_eq_true rfl⟩ rfl rfl rfl rfl hl.1 (Nat.le_of_ble_eq_true rfl) dX9_thoughtHas_8 ⟨Nat.zero_le _, Nat.zero_le _⟩) (fun H locs hw => ?_)
  refine lv_istore_n (lv' := [(3, .int r1.1), (0, .ref (xq X 27)), (1, .int a1), (2, .int a2)]) hx hb dX9_thoughtHas_11 rfl hl (by decide) rfl (fun ls hl => ?_)
  refine lv_iload_n hx hb dX9_thoughtHas_12 rfl (lv_at hl 0 rfl) ?_
  refine lv_if_le (tgt := 31) hx hb dX9_thoughtHas_13 (by decide) (fun c3 => ?_) (fun c3 => ?_)
  · replace hf := ite_t hf c3
    refine lv_iconst (v := 0) hx hb dX9_thoughtHas_31 (by decide) ?_
    exact w_zret (b := false) C hw hr rfl (so2 hf).1 (so2 hf).2 dX9_thoughtHas_32
  · replace hf := ite_f hf c3
    refine lv_iload_n hx hb dX9_thoughtHas_16 rfl (lv_at hl 0 rfl) ?_
    refine lv_aload_n hx hb dX9_thoughtHas_17 rfl (lv_at hl 1 rfl) ?_
    refine w_get (T := TX9) C hw (by decide) 3 kf_X9_30 (EC_27 X _ _) rfl inA9 (by decide) rfl dX9_thoughtHas_18 ?_
    refine w_get (T := TX6) C hw (by decide) 1 kf_X9_78 (EC_24 X _ _) rfl inA6 (by decide) rfl dX9_thoughtHas_21 ?_
    refine lv_icmp_lt (tgt := 31) hx hb dX9_thoughtHas_24 (by decide) (fun c4 => ?_) (fun c4 => ?_)
    · replace hf := ite_t hf c4
      refine lv_iconst (v := 0) hx hb dX9_thoughtHas_31 (by decide) ?_
      exact w_zret (b := false) C hw hr rfl (so2 hf).1 (so2 hf).2 dX9_thoughtHas_32
    · replace hf := ite_f hf c4
      refine lv_iconst (v := 1) hx hb dX9_thoughtHas_27 (by decide) ?_
      refine lv_goto (tgt := 32) hx hb dX9_thoughtHas_28 (by decide) ?_
      exact w_zret (b := true) C hw hr rfl (so2 hf).1 (so2 hf).2 dX9_thoughtHas_32
theorem dX9_minutesLater_0 : decode cX9_minutesLater 0 = .ok (.aload_n 0, 1) := by decide +kernel
theorem dX9_minutesLater_1 : decode cX9_minutesLater 1 = .ok (.getfield 26, 3) := by decide +kernel
theorem dX9_minutesLater_4 : decode cX9_minutesLater 4 = .ok (.getfield 34, 3) := by decide +kernel
theorem dX9_minutesLater_7 : decode cX9_minutesLater 7 = .ok (.bipush 11, 2) := by decide +kernel
theorem dX9_minutesLater_9 : decode cX9_minutesLater 9 = .ok (.aaload, 1) := by decide +kernel
theorem dX9_minutesLater_10 : decode cX9_minutesLater 10 = .ok (.iload_n 2, 1) := by decide +kernel
theorem dX9_minutesLater_11 : decode cX9_minutesLater 11 = .ok (.iaload, 1) := by decide +kernel
theorem dX9_minutesLater_12 : decode cX9_minutesLater 12 = .ok (.istore_n 3, 1) := by decide +kernel
theorem dX9_minutesLater_13 : decode cX9_minutesLater 13 = .ok (.aload_n 0, 1) := by decide +kernel
theorem dX9_minutesLater_14 : decode cX9_minutesLater 14 = .ok (.getfield 26, 3) := by decide +kernel
theorem dX9_minutesLater_17 : decode cX9_minutesLater 17 = .ok (.aload_n 0, 1) := by decide +kernel
theorem dX9_minutesLater_18 : decode cX9_minutesLater 18 = .ok (.getfield 26, 3) := by decide +kernel
theorem dX9_minutesLater_21 : decode cX9_minutesLater 21 = .ok (.iload_n 1, 1) := by decide +kernel
theorem dX9_minutesLater_22 : decode cX9_minutesLater 22 = .ok (.invokevirtual 50, 3) := by decide +kernel
theorem dX9_minutesLater_25 : decode cX9_minutesLater 25 = .ok (.invokevirtual 38, 3) := by decide +kernel
theorem dX9_minutesLater_28 : decode cX9_minutesLater 28 = .ok (.istore 4, 2) := by decide +kernel
theorem dX9_minutesLater_30 : decode cX9_minutesLater 30 = .ok (.aload_n 0, 1) := by decide +kernel
theorem dX9_minutesLater_31 : decode cX9_minutesLater 31 = .ok (.getfield 30, 3) := by decide +kernel
theorem dX9_minutesLater_34 : decode cX9_minutesLater 34 = .ok (.iload_n 1, 1) := by decide +kernel
theorem dX9_minutesLater_35 : decode cX9_minutesLater 35 = .ok (.iload 4, 2) := by decide +kernel
theorem dX9_minutesLater_37 : decode cX9_minutesLater 37 = .ok (.iload_n 2, 1) := by decide +kernel
theorem dX9_minutesLater_38 : decode cX9_minutesLater 38 = .ok (.invokevirtual 53, 3) := by decide +kernel
theorem dX9_minutesLater_41 : decode cX9_minutesLater 41 = .ok (.aload_n 0, 1) := by decide +kernel
theorem dX9_minutesLater_42 : decode cX9_minutesLater 42 = .ok (.getfield 26, 3) := by decide +kernel
theorem dX9_minutesLater_45 : decode cX9_minutesLater 45 = .ok (.iload_n 2, 1) := by decide +kernel
theorem dX9_minutesLater_46 : decode cX9_minutesLater 46 = .ok (.invokevirtual 57, 3) := by decide +kernel
theorem dX9_minutesLater_49 : decode cX9_minutesLater 49 = .ok (.bipush 99, 2) := by decide +kernel
theorem dX9_minutesLater_51 : decode cX9_minutesLater 51 = .ok (.sipush 999, 3) := by decide +kernel
theorem dX9_minutesLater_54 : decode cX9_minutesLater 54 = .ok (.iload_n 3, 1) := by decide +kernel
theorem dX9_minutesLater_55 : decode cX9_minutesLater 55 = .ok (.isub, 1) := by decide +kernel
theorem dX9_minutesLater_56 : decode cX9_minutesLater 56 = .ok (.invokestatic 61, 3) := by decide +kernel
theorem dX9_minutesLater_59 : decode cX9_minutesLater 59 = .ok (.istore 5, 2) := by decide +kernel
theorem dX9_minutesLater_61 : decode cX9_minutesLater 61 = .ok (.bipush (-2), 2) := by decide +kernel
theorem dX9_minutesLater_63 : decode cX9_minutesLater 63 = .ok (.istore 6, 2) := by decide +kernel
theorem dX9_minutesLater_65 : decode cX9_minutesLater 65 = .ok (.iconst 0, 1) := by decide +kernel
theorem dX9_minutesLater_66 : decode cX9_minutesLater 66 = .ok (.istore 7, 2) := by decide +kernel
theorem dX9_minutesLater_68 : decode cX9_minutesLater 68 = .ok (.iload 7, 2) := by decide +kernel
theorem dX9_minutesLater_70 : decode cX9_minutesLater 70 = .ok (.iload 5, 2) := by decide +kernel
theorem dX9_minutesLater_72 : decode cX9_minutesLater 72 = .ok (.if_icmp .gt 43, 3) := by decide +kernel
theorem dX9_minutesLater_75 : decode cX9_minutesLater 75 = .ok (.aload_n 0, 1) := by decide +kernel
theorem dX9_minutesLater_76 : decode cX9_minutesLater 76 = .ok (.getfield 26, 3) := by decide +kernel
theorem dX9_minutesLater_79 : decode cX9_minutesLater 79 = .ok (.getfield 34, 3) := by decide +kernel
theorem dX9_minutesLater_82 : decode cX9_minutesLater 82 = .ok (.bipush 11, 2) := by decide +kernel
theorem dX9_minutesLater_84 : decode cX9_minutesLater 84 = .ok (.aaload, 1) := by decide +kernel
theorem dX9_minutesLater_85 : decode cX9_minutesLater 85 = .ok (.bipush 12, 2) := by decide +kernel
theorem dX9_minutesLater_87 : decode cX9_minutesLater 87 = .ok (.iload_n 3, 1) := by decide +kernel
theorem dX9_minutesLater_88 : decode cX9_minutesLater 88 = .ok (.iload 7, 2) := by decide +kernel
theorem dX9_minutesLater_90 : decode cX9_minutesLater 90 = .ok (.iadd, 1) := by decide +kernel
theorem dX9_minutesLater_91 : decode cX9_minutesLater 91 = .ok (.iastore, 1) := by decide +kernel
theorem dX9_minutesLater_92 : decode cX9_minutesLater 92 = .ok (.aload_n 0, 1) := by decide +kernel
theorem dX9_minutesLater_93 : decode cX9_minutesLater 93 = .ok (.iload_n 1, 1) := by decide +kernel
theorem dX9_minutesLater_94 : decode cX9_minutesLater 94 = .ok (.iload 4, 2) := by decide +kernel
theorem dX9_minutesLater_96 : decode cX9_minutesLater 96 = .ok (.invokevirtual 67, 3) := by decide +kernel
theorem dX9_minutesLater_99 : decode cX9_minutesLater 99 = .ok (.ifCond .ne 6, 3) := by decide +kernel
theorem dX9_minutesLater_102 : decode cX9_minutesLater 102 = .ok (.goto 13, 3) := by decide +kernel
theorem dX9_minutesLater_105 : decode cX9_minutesLater 105 = .ok (.iload 7, 2) := by decide +kernel
theorem dX9_minutesLater_107 : decode cX9_minutesLater 107 = .ok (.istore 6, 2) := by decide +kernel
theorem dX9_minutesLater_109 : decode cX9_minutesLater 109 = .ok (.iinc 7 1, 3) := by decide +kernel
theorem dX9_minutesLater_112 : decode cX9_minutesLater 112 = .ok (.goto (-44), 3) := by decide +kernel
theorem dX9_minutesLater_115 : decode cX9_minutesLater 115 = .ok (.iload 6, 2) := by decide +kernel
theorem dX9_minutesLater_117 : decode cX9_minutesLater 117 = .ok (.ireturn, 1) := by decide +kernel
theorem ok_yX9_minutesLater : yOk yX9_minutesLater 2 := ⟨by decide +kernel, by decide +kernel, by decide +kernel⟩
def fX9_minutesLater_68 (n : Nat) : Nat → St → Int32 → Int32 → Int32 → Int32 → Int32 → Int32 → Option (Int32 × St)
  | 0, _, _, _, _, _, _, _ => none
  | k + 1, st, v1, v3, v4, v5, v6, v7 => if v5 < v7 then (some (v6, st)) else (bnd (sI st 14 12 (v3 + v7)) (fun st15 => (fX9_thoughtHas n st15 v1 v4).bind (fun r17 => if bI r17.1 = 0 then (some (v6, r17.2)) else (bnd (v7 + (1 : Int32)) (fun x20 => fX9_minutesLater_68 n k r17.2 v1 v3 v4 v5 v7 x20)))))
set_option maxHeartbeats 4000000 in
theorem tX9_minutesLater_68 {p : Program} {l : Launch} {e : Env} {s : State} {m : MethodId} {args : Array Value} {below : List Frame} {meth : Method} {c : Code} {X : WX} (C : Amb 65 X p s m args meth c cX9_minutesLater 8 RX9) (hr : meth.sig.returnType = some .int) {R : Int32 × St} {n : Nat} : ∀ (k : Nat) (st : St) (v1 : Int32) (v3 : Int32) (v4 : Int32) (v5 : Int32) (v6 : Int32) (v7 : Int32) (H : Heap) (locs : List Loc) (ls : Array Slot), Wd EC 65 X s.heap st H locs → lv_has ls 8 [(0, .ref (xq X 27)), (1, .int v1), (3, .int v3), (4, .int v4), (5, .int v5), (6, .int v6), (7, .int v7)] → fX9_minutesLater_68 n k st v1 v3 v4 v5 v6 v7 = some R → W p l e { frames := 4, cells := 0, slots := 0, locals := 103 } s m args below meth c H locs 0 0 (QI EC 65 X R.1 R.2 below args s) (F0 m 68 ls []) := by
  obtain ⟨hx, hb, hml, hown, hts⟩ := id C.1
  intro k
  induction k with
  | zero => intro st v1 v3 v4 v5 v6 v7 H locs ls  hw hl hf; exact absurd (show none = some R from hf) (fun z => by cases z)
  | succ k ih =>
    intro st v1 v3 v4 v5 v6 v7 H locs ls  hw hl hf
    rw [fX9_minutesLater_68] at hf
    refine lv_iload hx hb dX9_minutesLater_68 (lv_at hl 6 rfl) ?_
    refine lv_iload hx hb dX9_minutesLater_70 (lv_at hl 4 rfl) ?_
    refine lv_icmp_gt (tgt := 115) hx hb dX9_minutesLater_72 (by decide) (fun c14 => ?_) (fun c14 => ?_)
    · replace hf := ite_t hf c14
      refine lv_iload hx hb dX9_minutesLater_115 (lv_at hl 5 rfl) ?_
      exact w_iret C hw hr (so2 hf).1 (so2 hf).2 dX9_minutesLater_117
    · replace hf := ite_f hf c14
      refine lv_aload_n hx hb dX9_minutesLater_75 rfl (lv_at hl 0 rfl) ?_
      refine w_get (T := TX9) C hw (by decide) 2 kf_X9_26 (EC_27 X _ _) rfl inA9 (by decide) rfl dX9_minutesLater_76 ?_
      refine w_get (T := TX3) C hw (by decide) 0 kf_X9_34 (EC_1 X _ _) rfl inA3 (by decide) rfl dX9_minutesLater_79 ?_
      refine lv_bipush (v := 11) hx hb dX9_minutesLater_82 (by decide) ?_
      refine w_aald (k' := 14) C hw (by decide) (EC_2 X _ _) rfl rfl (by decide) rfl dX9_minutesLater_84 ?_
      refine lv_bipush (v := 12) hx hb dX9_minutesLater_85 (by decide) ?_
      refine lv_iload_n hx hb dX9_minutesLater_87 rfl (lv_at hl 2 rfl) ?_
      refine lv_iload hx hb dX9_minutesLater_88 (lv_at hl 6 rfl) ?_
      refine lv_iadd hx hb dX9_minutesLater_90 ?_
      obtain ⟨st15, es16⟩ : ∃ z : St, z = sI st 14 12 (v3 + v7) := ⟨_, rfl⟩
      replace hf := bnd_nm hf es16
      refine w_iast C hw (by decide) (fun f9 => EC_14 X f9 _) (by decide) (show (12 : Int32).toNatClampNeg = 12 by decide) dX9_minutesLater_91 (fun H locs hw => ?_)
      rw [← es16] at hw
      refine lv_aload_n hx hb dX9_minutesLater_92 rfl (lv_at hl 0 rfl) ?_
      refine lv_iload_n hx hb dX9_minutesLater_93 rfl (lv_at hl 1 rfl) ?_
      refine lv_iload hx hb dX9_minutesLater_94 (lv_at hl 3 rfl) ?_
      obtain ⟨r17, k18, hf⟩ := bd_some hf
      refine w_goI hw (w_runV (rest := []) C hw (zX9_thoughtHas _ _ n st15 v1 v4 r17 k18) (by decide) (EC_27 X _ _) rfl km_X9_67 ki_yX9_thoughtHas kv_X9_thoughtHas kz_X9 kc_X9_thoughtHas rfl ok_yX9_thoughtHas ⟨Nat.le_of_ble_eq_true rfl, Nat.le_of_ble_eq_true rfl⟩ rfl rfl rfl rfl hl.1 (Nat.le_of_ble_eq_true rfl) dX9_minutesLater_96 ⟨Nat.zero_le _, Nat.zero_le _⟩) (fun H locs hw => ?_)
      refine lv_if_ne (tgt := 105) hx hb dX9_minutesLater_99 (by decide) (fun c19 => ?_) (fun c19 => ?_)
      · replace hf := ite_f hf c19
        refine lv_iload hx hb dX9_minutesLater_105 (lv_at hl 6 rfl) ?_
        refine lv_istore (lv' := [(6, .int v7), (0, .ref (xq X 27)), (1, .int v1), (3, .int v3), (4, .int v4), (5, .int v5), (7, .int v7)]) hx hb dX9_minutesLater_107 hl (by decide) rfl (fun ls hl => ?_)
        obtain ⟨x20, e21⟩ : ∃ z : Int32, z = v7 + (1 : Int32) := ⟨_, rfl⟩
        replace hf := bnd_nm hf e21
        refine lv_iinc (v := x20) (lv' := [(7, .int x20), (6, .int v7), (0, .ref (xq X 27)), (1, .int v1), (3, .int v3), (4, .int v4), (5, .int v5)]) hx hb dX9_minutesLater_109 hl (k := 6) rfl (by rw [e21]; rfl) (by decide) rfl (fun ls hl => ?_)
        refine lv_goto (tgt := 68) hx hb dX9_minutesLater_112 (by decide) ?_
        exact ih r17.2 v1 v3 v4 v5 v7 x20 _ _ _ hw (lv_sub hl [2, 3, 4, 5, 6, 1, 0] rfl) hf
      · replace hf := ite_t hf c19
        refine lv_goto (tgt := 115) hx hb dX9_minutesLater_102 (by decide) ?_
        refine lv_iload hx hb dX9_minutesLater_115 (lv_at hl 5 rfl) ?_
        exact w_iret C hw hr (so2 hf).1 (so2 hf).2 dX9_minutesLater_117
def fX9_minutesLater (n : Nat) (st : St) (a1 : Int32) (a2 : Int32) : Option (Int32 × St) := gd (inB a2 13) (bnd (gI st 14 a2.toNatClampNeg) (fun x2 => (fX3_fieldUnder n st a1).bind (fun r4 => (fX3_ownerOf st r4).bind (fun r6 => (fX6_weigh n st a1 r6 a2).bind (fun r8 => (fX3_thinkOf r8 a2).bind (fun r10 => bnd (mnI (99 : Int32) ((999 : Int32) - x2)) (fun x12 => fX9_minutesLater_68 n n r10 a1 x2 r6 x12 (-2 : Int32) (0 : Int32))))))))
set_option maxHeartbeats 4000000 in
theorem zX9_minutesLater (l : Launch) (X : WX) (n : Nat) (st : St) (a1 : Int32) (a2 : Int32) (R : Int32 × St) (hf : fX9_minutesLater n st a1 a2 = some R) : CtI l yX9_minutesLater cX9_minutesLater 8 .int ({ frames := 4, cells := 0, slots := 0, locals := 103 }) EC 65 X [.ref (xq X 27), .int a1, .int a2] st R.1 R.2 := by
  refine ct_in (own := RX9) (by decide +kernel) rfl (Nat.le_of_ble_eq_true rfl) (fun p e s m below meth c C hr hw ls hl => ?_)
  obtain ⟨hx, hb, hml, hown, hts⟩ := id C.1
  have hl : lv_has ls 8 [(0, .ref (xq X 27)), (1, .int a1), (2, .int a2)] := hl
  unfold fX9_minutesLater at hf
  refine lv_aload_n hx hb dX9_minutesLater_0 rfl (lv_at hl 0 rfl) ?_
  refine w_get (T := TX9) C hw (by decide) 2 kf_X9_26 (EC_27 X _ _) rfl inA9 (by decide) rfl dX9_minutesLater_1 ?_
  refine w_get (T := TX3) C hw (by decide) 0 kf_X9_34 (EC_1 X _ _) rfl inA3 (by decide) rfl dX9_minutesLater_4 ?_
  refine lv_bipush (v := 11) hx hb dX9_minutesLater_7 (by decide) ?_
  refine w_aald (k' := 14) C hw (by decide) (EC_2 X _ _) rfl rfl (by decide) rfl dX9_minutesLater_9 ?_
  refine lv_iload_n hx hb dX9_minutesLater_10 rfl (lv_at hl 2 rfl) ?_
  obtain ⟨h1, hf⟩ := gd_some hf
  refine w_iald C hw (by decide) (EC_14 X _ _) h1 rfl dX9_minutesLater_11 ?_
  refine lv_topi (fun x2 e3 => ?_)
  replace hf := bnd_nm hf e3
  refine lv_istore_n (lv' := [(3, .int x2), (0, .ref (xq X 27)), (1, .int a1), (2, .int a2)]) hx hb dX9_minutesLater_12 rfl hl (by decide) rfl (fun ls hl => ?_)
  refine lv_aload_n hx hb dX9_minutesLater_13 rfl (lv_at hl 1 rfl) ?_
  refine w_get (T := TX9) C hw (by decide) 2 kf_X9_26 (EC_27 X _ _) rfl inA9 (by decide) rfl dX9_minutesLater_14 ?_
  refine lv_aload_n hx hb dX9_minutesLater_17 rfl (lv_at hl 1 rfl) ?_
  refine w_get (T := TX9) C hw (by decide) 2 kf_X9_26 (EC_27 X _ _) rfl inA9 (by decide) rfl dX9_minutesLater_18 ?_
  refine lv_iload_n hx hb dX9_minutesLater_21 rfl (lv_at hl 2 rfl) ?_
  obtain ⟨r4, k5, hf⟩ := bd_some hf
  refine w_goI hw (w_runV (rest := [.ref (xq X 1)]) C hw (zX3_fieldUnder _ _ n st a1 r4 k5) (by decide) (EC_1 X _ _) rfl km_X9_50 ki_yX3_fieldUnder kv_X3_fieldUnder kz_X3 kc_X3_fieldUnder rfl ok_yX3_fieldUnder ⟨Nat.le_of_ble_eq_true rfl, Nat.le_of_ble_eq_true rfl⟩ rfl rfl rfl rfl hl.1 (Nat.le_of_ble_eq_true rfl) dX9_minutesLater_22 ⟨Nat.zero_le _, Nat.zero_le _⟩) (fun H locs hw => ?_)
  obtain ⟨r6, k7, hf⟩ := bd_some hf
  refine w_goI hw (w_runV (rest := []) C hw (zX3_ownerOf _ _ st r4 r6 k7) (by decide) (EC_1 X _ _) rfl km_X9_38 ki_yX3_ownerOf kv_X3_ownerOf kz_X3 kc_X3_ownerOf rfl ok_yX3_ownerOf ⟨Nat.le_of_ble_eq_true rfl, Nat.le_of_ble_eq_true rfl⟩ rfl rfl rfl rfl hl.1 (Nat.le_of_ble_eq_true rfl) dX9_minutesLater_25 ⟨Nat.zero_le _, Nat.zero_le _⟩) (fun H locs hw => ?_)
  refine lv_istore (lv' := [(4, .int r6), (3, .int x2), (0, .ref (xq X 27)), (1, .int a1), (2, .int a2)]) hx hb dX9_minutesLater_28 hl (by decide) rfl (fun ls hl => ?_)
  refine lv_aload_n hx hb dX9_minutesLater_30 rfl (lv_at hl 2 rfl) ?_
  refine w_get (T := TX9) C hw (by decide) 3 kf_X9_30 (EC_27 X _ _) rfl inA9 (by decide) rfl dX9_minutesLater_31 ?_
  refine lv_iload_n hx hb dX9_minutesLater_34 rfl (lv_at hl 3 rfl) ?_
  refine lv_iload hx hb dX9_minutesLater_35 (lv_at hl 0 rfl) ?_
  refine lv_iload_n hx hb dX9_minutesLater_37 rfl (lv_at hl 4 rfl) ?_
  obtain ⟨r8, k9, hf⟩ := bd_some hf
  refine w_goV hw (w_runV (rest := []) C hw (zX6_weigh _ _ n st a1 r6 a2 r8 k9) (by decide) (EC_24 X _ _) rfl km_X9_53 ki_yX6_weigh kv_X6_weigh kz_X6 kc_X6_weigh rfl ok_yX6_weigh ⟨Nat.le_of_ble_eq_true rfl, Nat.le_of_ble_eq_true rfl⟩ rfl rfl rfl rfl hl.1 (Nat.le_of_ble_eq_true rfl) dX9_minutesLater_38 ⟨Nat.zero_le _, Nat.zero_le _⟩) (fun H locs hw => ?_)
  refine lv_aload_n hx hb dX9_minutesLater_41 rfl (lv_at hl 2 rfl) ?_
  refine w_get (T := TX9) C hw (by decide) 2 kf_X9_26 (EC_27 X _ _) rfl inA9 (by decide) rfl dX9_minutesLater_42 ?_
  refine lv_iload_n hx hb dX9_minutesLater_45 rfl (lv_at hl 4 rfl) ?_
  obtain ⟨r10, k11, hf⟩ := bd_some hf
  refine w_goV hw (w_runV (rest := []) C hw (zX3_thinkOf _ _ r8 a2 r10 k11) (by decide) (EC_1 X _ _) rfl km_X9_57 ki_yX3_thinkOf kv_X3_thinkOf kz_X3 kc_X3_thinkOf rfl ok_yX3_thinkOf ⟨Nat.le_of_ble_eq_true rfl, Nat.le_of_ble_eq_true rfl⟩ rfl rfl rfl rfl hl.1 (Nat.le_of_ble_eq_true rfl) dX9_minutesLater_46 ⟨Nat.zero_le _, Nat.zero_le _⟩) (fun H locs hw => ?_)
  refine lv_bipush (v := 99) hx hb dX9_minutesLater_49 (by decide) ?_
  refine lv_sipush (v := 999) hx hb dX9_minutesLater_51 (by decide) ?_
  refine lv_iload_n hx hb dX9_minutesLater_54 rfl (lv_at hl 1 rfl) ?_
  refine lv_isub hx hb dX9_minutesLater_55 ?_
  refine w_min C hl.1 km_X9_61 (Nat.le_of_ble_eq_true rfl) (Nat.le_of_ble_eq_true rfl) (Nat.zero_le _) (Nat.zero_le _) dX9_minutesLater_56 ?_
  refine lv_topi (fun x12 e13 => ?_)
  replace hf := bnd_nm hf e13
  refine lv_istore (lv' := [(5, .int x12), (4, .int r6), (3, .int x2), (0, .ref (xq X 27)), (1, .int a1), (2, .int a2)]) hx hb dX9_minutesLater_59 hl (by decide) rfl (fun ls hl => ?_)
  refine lv_bipush (v := -2) hx hb dX9_minutesLater_61 (by decide) ?_
  refine lv_istore (lv' := [(6, .int (-2 : Int32)), (5, .int x12), (4, .int r6), (3, .int x2), (0, .ref (xq X 27)), (1, .int a1), (2, .int a2)]) hx hb dX9_minutesLater_63 hl (by decide) rfl (fun ls hl => ?_)
  refine lv_iconst (v := 0) hx hb dX9_minutesLater_65 (by decide) ?_
  refine lv_istore (lv' := [(7, .int (0 : Int32)), (6, .int (-2 : Int32)), (5, .int x12), (4, .int r6), (3, .int x2), (0, .ref (xq X 27)), (1, .int a1), (2, .int a2)]) hx hb dX9_minutesLater_66 hl (by decide) rfl (fun ls hl => ?_)
  exact tX9_minutesLater_68 C hr n r10 a1 x2 r6 x12 (-2 : Int32) (0 : Int32) _ _ _ hw (lv_sub hl [5, 6, 4, 3, 2, 1, 0] rfl) hf
theorem dX9_leastLoud_0 : decode cX9_leastLoud 0 = .ok (.aload_n 0, 1) := by decide +kernel
theorem dX9_leastLoud_1 : decode cX9_leastLoud 1 = .ok (.getfield 26, 3) := by decide +kernel
theorem dX9_leastLoud_4 : decode cX9_leastLoud 4 = .ok (.aload_n 0, 1) := by decide +kernel
theorem dX9_leastLoud_5 : decode cX9_leastLoud 5 = .ok (.getfield 26, 3) := by decide +kernel
theorem dX9_leastLoud_8 : decode cX9_leastLoud 8 = .ok (.iload_n 1, 1) := by decide +kernel
theorem dX9_leastLoud_9 : decode cX9_leastLoud 9 = .ok (.invokevirtual 50, 3) := by decide +kernel
theorem dX9_leastLoud_12 : decode cX9_leastLoud 12 = .ok (.invokevirtual 38, 3) := by decide +kernel
theorem dX9_leastLoud_15 : decode cX9_leastLoud 15 = .ok (.istore_n 3, 1) := by decide +kernel
theorem dX9_leastLoud_16 : decode cX9_leastLoud 16 = .ok (.aload_n 0, 1) := by decide +kernel
theorem dX9_leastLoud_17 : decode cX9_leastLoud 17 = .ok (.getfield 30, 3) := by decide +kernel
theorem dX9_leastLoud_20 : decode cX9_leastLoud 20 = .ok (.iload_n 1, 1) := by decide +kernel
theorem dX9_leastLoud_21 : decode cX9_leastLoud 21 = .ok (.iload_n 3, 1) := by decide +kernel
theorem dX9_leastLoud_22 : decode cX9_leastLoud 22 = .ok (.iload_n 2, 1) := by decide +kernel
theorem dX9_leastLoud_23 : decode cX9_leastLoud 23 = .ok (.invokevirtual 53, 3) := by decide +kernel
theorem dX9_leastLoud_26 : decode cX9_leastLoud 26 = .ok (.aload_n 0, 1) := by decide +kernel
theorem dX9_leastLoud_27 : decode cX9_leastLoud 27 = .ok (.getfield 26, 3) := by decide +kernel
theorem dX9_leastLoud_30 : decode cX9_leastLoud 30 = .ok (.iload_n 2, 1) := by decide +kernel
theorem dX9_leastLoud_31 : decode cX9_leastLoud 31 = .ok (.invokevirtual 57, 3) := by decide +kernel
theorem dX9_leastLoud_34 : decode cX9_leastLoud 34 = .ok (.iconst 0, 1) := by decide +kernel
theorem dX9_leastLoud_35 : decode cX9_leastLoud 35 = .ok (.istore 4, 2) := by decide +kernel
theorem dX9_leastLoud_37 : decode cX9_leastLoud 37 = .ok (.iload 4, 2) := by decide +kernel
theorem dX9_leastLoud_39 : decode cX9_leastLoud 39 = .ok (.getstatic 71, 3) := by decide +kernel
theorem dX9_leastLoud_42 : decode cX9_leastLoud 42 = .ok (.bipush 13, 2) := by decide +kernel
theorem dX9_leastLoud_44 : decode cX9_leastLoud 44 = .ok (.iaload, 1) := by decide +kernel
theorem dX9_leastLoud_45 : decode cX9_leastLoud 45 = .ok (.if_icmp .gt 36, 3) := by decide +kernel
theorem dX9_leastLoud_48 : decode cX9_leastLoud 48 = .ok (.aload_n 0, 1) := by decide +kernel
theorem dX9_leastLoud_49 : decode cX9_leastLoud 49 = .ok (.getfield 26, 3) := by decide +kernel
theorem dX9_leastLoud_52 : decode cX9_leastLoud 52 = .ok (.getfield 34, 3) := by decide +kernel
theorem dX9_leastLoud_55 : decode cX9_leastLoud 55 = .ok (.bipush 13, 2) := by decide +kernel
theorem dX9_leastLoud_57 : decode cX9_leastLoud 57 = .ok (.aaload, 1) := by decide +kernel
theorem dX9_leastLoud_58 : decode cX9_leastLoud 58 = .ok (.bipush 12, 2) := by decide +kernel
theorem dX9_leastLoud_60 : decode cX9_leastLoud 60 = .ok (.iload 4, 2) := by decide +kernel
theorem dX9_leastLoud_62 : decode cX9_leastLoud 62 = .ok (.iastore, 1) := by decide +kernel
theorem dX9_leastLoud_63 : decode cX9_leastLoud 63 = .ok (.aload_n 0, 1) := by decide +kernel
theorem dX9_leastLoud_64 : decode cX9_leastLoud 64 = .ok (.iload_n 1, 1) := by decide +kernel
theorem dX9_leastLoud_65 : decode cX9_leastLoud 65 = .ok (.iload_n 3, 1) := by decide +kernel
theorem dX9_leastLoud_66 : decode cX9_leastLoud 66 = .ok (.invokevirtual 67, 3) := by decide +kernel
theorem dX9_leastLoud_69 : decode cX9_leastLoud 69 = .ok (.ifCond .eq 6, 3) := by decide +kernel
theorem dX9_leastLoud_72 : decode cX9_leastLoud 72 = .ok (.iload 4, 2) := by decide +kernel
theorem dX9_leastLoud_74 : decode cX9_leastLoud 74 = .ok (.ireturn, 1) := by decide +kernel
theorem dX9_leastLoud_75 : decode cX9_leastLoud 75 = .ok (.iinc 4 1, 3) := by decide +kernel
theorem dX9_leastLoud_78 : decode cX9_leastLoud 78 = .ok (.goto (-41), 3) := by decide +kernel
theorem dX9_leastLoud_81 : decode cX9_leastLoud 81 = .ok (.bipush (-2), 2) := by decide +kernel
theorem dX9_leastLoud_83 : decode cX9_leastLoud 83 = .ok (.ireturn, 1) := by decide +kernel
theorem ok_yX9_leastLoud : yOk yX9_leastLoud 2 := ⟨by decide +kernel, by decide +kernel, by decide +kernel⟩
def fX9_leastLoud_37 (n : Nat) : Nat → St → Int32 → Int32 → Int32 → Option (Int32 × St)
  | 0, _, _, _, _ => none
  | k + 1, st, v1, v3, v4 => if tb tMOST 13 < v4 then (some ((-2 : Int32), st)) else (bnd (sI st 16 12 v4) (fun st10 => (fX9_thoughtHas n st10 v1 v3).bind (fun r12 => if bI r12.1 = 0 then (bnd (v4 + (1 : Int32)) (fun x15 => fX9_leastLoud_37 n k r12.2 v1 v3 x15)) else (some (v4, r12.2)))))
set_option maxHeartbeats 4000000 in
theorem tX9_leastLoud_37 {p : Program} {l : Launch} {e : Env} {s : State} {m : MethodId} {args : Array Value} {below : List Frame} {meth : Method} {c : Code} {X : WX} (C : Amb 65 X p s m args meth c cX9_leastLoud 5 RX9) (hr : meth.sig.returnType = some .int) {R : Int32 × St} {n : Nat} : ∀ (k : Nat) (st : St) (v1 : Int32) (v3 : Int32) (v4 : Int32) (H : Heap) (locs : List Loc) (ls : Array Slot), Wd EC 65 X s.heap st H locs → lv_has ls 5 [(0, .ref (xq X 27)), (1, .int v1), (3, .int v3), (4, .int v4)] → fX9_leastLoud_37 n k st v1 v3 v4 = some R → W p l e { frames := 4, cells := 0, slots := 0, locals := 103 } s m args below meth c H locs 0 0 (QI EC 65 X R.1 R.2 below args s) (F0 m 37 ls []) := by
  obtain ⟨hx, hb, hml, hown, hts⟩ := id C.1
  intro k
  induction k with
  | zero => intro st v1 v3 v4 H locs ls  hw hl hf; exact absurd (show none = some R from hf) (fun z => by cases z)
  | succ k ih =>
    intro st v1 v3 v4 H locs ls  hw hl hf
    rw [fX9_leastLoud_37] at hf
    refine lv_iload hx hb dX9_leastLoud_37 (lv_at hl 3 rfl) ?_
    refine w_gets C hw C.2.2.1.2.2.1 kf_X9_71 dX9_leastLoud_39 ?_
    refine lv_bipush (v := 13) hx hb dX9_leastLoud_42 (by decide) ?_
    refine w_tald C hw C.2.2.1.2.2.1 (by decide) (show (13 : Int32).toNatClampNeg = 13 by decide) dX9_leastLoud_44 ?_
    refine lv_icmp_gt (tgt := 81) hx hb dX9_leastLoud_45 (by decide) (fun c9 => ?_) (fun c9 => ?_)
    · replace hf := ite_t hf c9
      refine lv_bipush (v := -2) hx hb dX9_leastLoud_81 (by decide) ?_
      exact w_iret C hw hr (so2 hf).1 (so2 hf).2 dX9_leastLoud_83
    · replace hf := ite_f hf c9
      refine lv_aload_n hx hb dX9_leastLoud_48 rfl (lv_at hl 0 rfl) ?_
      refine w_get (T := TX9) C hw (by decide) 2 kf_X9_26 (EC_27 X _ _) rfl inA9 (by decide) rfl dX9_leastLoud_49 ?_
      refine w_get (T := TX3) C hw (by decide) 0 kf_X9_34 (EC_1 X _ _) rfl inA3 (by decide) rfl dX9_leastLoud_52 ?_
      refine lv_bipush (v := 13) hx hb dX9_leastLoud_55 (by decide) ?_
      refine w_aald (k' := 16) C hw (by decide) (EC_2 X _ _) rfl rfl (by decide) rfl dX9_leastLoud_57 ?_
      refine lv_bipush (v := 12) hx hb dX9_leastLoud_58 (by decide) ?_
      refine lv_iload hx hb dX9_leastLoud_60 (lv_at hl 3 rfl) ?_
      obtain ⟨st10, es11⟩ : ∃ z : St, z = sI st 16 12 v4 := ⟨_, rfl⟩
      replace hf := bnd_nm hf es11
      refine w_iast C hw (by decide) (fun f9 => EC_16 X f9 _) (by decide) (show (12 : Int32).toNatClampNeg = 12 by decide) dX9_leastLoud_62 (fun H locs hw => ?_)
      rw [← es11] at hw
      refine lv_aload_n hx hb dX9_leastLoud_63 rfl (lv_at hl 0 rfl) ?_
      refine lv_iload_n hx hb dX9_leastLoud_64 rfl (lv_at hl 1 rfl) ?_
      refine lv_iload_n hx hb dX9_leastLoud_65 rfl (lv_at hl 2 rfl) ?_
      obtain ⟨r12, k13, hf⟩ := bd_some hf
      refine w_goI hw (w_runV (rest := []) C hw (zX9_thoughtHas _ _ n st10 v1 v3 r12 k13) (by decide) (EC_27 X _ _) rfl km_X9_67 ki_yX9_thoughtHas kv_X9_thoughtHas kz_X9 kc_X9_thoughtHas rfl ok_yX9_thoughtHas ⟨Nat.le_of_ble_eq_true rfl, Nat.le_of_ble_eq_true rfl⟩ rfl rfl rfl rfl hl.1 (Nat.le_of_ble_eq_true rfl) dX9_leastLoud_66 ⟨Nat.zero_le _, Nat.zero_le _⟩) (fun H locs hw => ?_)
      refine lv_if_eq (tgt := 75) hx hb dX9_leastLoud_69 (by decide) (fun c14 => ?_) (fun c14 => ?_)
      · replace hf := ite_t hf c14
        obtain ⟨x15, e16⟩ : ∃ z : Int32, z = v4 + (1 : Int32) := ⟨_, rfl⟩
        replace hf := bnd_nm hf e16
        refine lv_iinc (v := x15) (lv' := [(4, .int x15), (0, .ref (xq X 27)), (1, .int v1), (3, .int v3)]) hx hb dX9_leastLoud_75 hl (k := 3) rfl (by rw [e16]; rfl) (by decide) rfl (fun ls hl => ?_)
        refine lv_goto (tgt := 37) hx hb dX9_leastLoud_78 (by decide) ?_
        exact ih r12.2 v1 v3 x15 _ _ _ hw (lv_sub hl [1, 2, 3, 0] rfl) hf
      · replace hf := ite_f hf c14
        refine lv_iload hx hb dX9_leastLoud_72 (lv_at hl 3 rfl) ?_
        exact w_iret C hw hr (so2 hf).1 (so2 hf).2 dX9_leastLoud_74
def fX9_leastLoud (n : Nat) (st : St) (a1 : Int32) (a2 : Int32) : Option (Int32 × St) := (fX3_fieldUnder n st a1).bind (fun r1 => (fX3_ownerOf st r1).bind (fun r3 => (fX6_weigh n st a1 r3 a2).bind (fun r5 => (fX3_thinkOf r5 a2).bind (fun r7 => fX9_leastLoud_37 n n r7 a1 r3 (0 : Int32)))))
set_option maxHeartbeats 4000000 in
theorem zX9_leastLoud (l : Launch) (X : WX) (n : Nat) (st : St) (a1 : Int32) (a2 : Int32) (R : Int32 × St) (hf : fX9_leastLoud n st a1 a2 = some R) : CtI l yX9_leastLoud cX9_leastLoud 5 .int ({ frames := 4, cells := 0, slots := 0, locals := 103 }) EC 65 X [.ref (xq X 27), .int a1, .int a2] st R.1 R.2 := by
  refine ct_in (own := RX9) (by decide +kernel) rfl (Nat.le_of_ble_eq_true rfl) (fun p e s m below meth c C hr hw ls hl => ?_)
  obtain ⟨hx, hb, hml, hown, hts⟩ := id C.1
  have hl : lv_has ls 5 [(0, .ref (xq X 27)), (1, .int a1), (2, .int a2)] := hl
  unfold fX9_leastLoud at hf
  refine lv_aload_n hx hb dX9_leastLoud_0 rfl (lv_at hl 0 rfl) ?_
  refine w_get (T := TX9) C hw (by decide) 2 kf_X9_26 (EC_27 X _ _) rfl inA9 (by decide) rfl dX9_leastLoud_1 ?_
  refine lv_aload_n hx hb dX9_leastLoud_4 rfl (lv_at hl 0 rfl) ?_
  refine w_get (T := TX9) C hw (by decide) 2 kf_X9_26 (EC_27 X _ _) rfl inA9 (by decide) rfl dX9_leastLoud_5 ?_
  refine lv_iload_n hx hb dX9_leastLoud_8 rfl (lv_at hl 1 rfl) ?_
  obtain ⟨r1, k2, hf⟩ := bd_some hf
  refine w_goI hw (w_runV (rest := [.ref (xq X 1)]) C hw (zX3_fieldUnder _ _ n st a1 r1 k2) (by decide) (EC_1 X _ _) rfl km_X9_50 ki_yX3_fieldUnder kv_X3_fieldUnder kz_X3 kc_X3_fieldUnder rfl ok_yX3_fieldUnder ⟨Nat.le_of_ble_eq_true rfl, Nat.le_of_ble_eq_true rfl⟩ rfl rfl rfl rfl hl.1 (Nat.le_of_ble_eq_true rfl) dX9_leastLoud_9 ⟨Nat.zero_le _, Nat.zero_le _⟩) (fun H locs hw => ?_)
  obtain ⟨r3, k4, hf⟩ := bd_some hf
  refine w_goI hw (w_runV (rest := []) C hw (zX3_ownerOf _ _ st r1 r3 k4) (by decide) (EC_1 X _ _) rfl km_X9_38 ki_yX3_ownerOf kv_X3_ownerOf kz_X3 kc_X3_ownerOf rfl ok_yX3_ownerOf ⟨Nat.le_of_ble_eq_true rfl, Nat.le_of_ble_eq_true rfl⟩ rfl rfl rfl rfl hl.1 (Nat.le_of_ble_eq_true rfl) dX9_leastLoud_12 ⟨Nat.zero_le _, Nat.zero_le _⟩) (fun H locs hw => ?_)
  refine lv_istore_n (lv' := [(3, .int r3), (0, .ref (xq X 27)), (1, .int a1), (2, .int a2)]) hx hb dX9_leastLoud_15 rfl hl (by decide) rfl (fun ls hl => ?_)
  refine lv_aload_n hx hb dX9_leastLoud_16 rfl (lv_at hl 1 rfl) ?_
  refine w_get (T := TX9) C hw (by decide) 3 kf_X9_30 (EC_27 X _ _) rfl inA9 (by decide) rfl dX9_leastLoud_17 ?_
  refine lv_iload_n hx hb dX9_leastLoud_20 rfl (lv_at hl 2 rfl) ?_
  refine lv_iload_n hx hb dX9_leastLoud_21 rfl (lv_at hl 0 rfl) ?_
  refine lv_iload_n hx hb dX9_leastLoud_22 rfl (lv_at hl 3 rfl) ?_
  obtain ⟨r5, k6, hf⟩ := bd_some hf
  refine w_goV hw (w_runV (rest := []) C hw (zX6_weigh _ _ n st a1 r3 a2 r5 k6) (by decide) (EC_24 X _ _) rfl km_X9_53 ki_yX6_weigh kv_X6_weigh kz_X6 kc_X6_weigh rfl ok_yX6_weigh ⟨Nat.le_of_ble_eq_true rfl, Nat.le_of_ble_eq_true rfl⟩ rfl rfl rfl rfl hl.1 (Nat.le_of_ble_eq_true rfl) dX9_leastLoud_23 ⟨Nat.zero_le _, Nat.zero_le _⟩) (fun H locs hw => ?_)
  refine lv_aload_n hx hb dX9_leastLoud_26 rfl (lv_at hl 1 rfl) ?_
  refine w_get (T := TX9) C hw (by decide) 2 kf_X9_26 (EC_27 X _ _) rfl inA9 (by decide) rfl dX9_leastLoud_27 ?_
  refine lv_iload_n hx hb dX9_leastLoud_30 rfl (lv_at hl 3 rfl) ?_
  obtain ⟨r7, k8, hf⟩ := bd_some hf
  refine w_goV hw (w_runV (rest := []) C hw (zX3_thinkOf _ _ r5 a2 r7 k8) (by decide) (EC_1 X _ _) rfl km_X9_57 ki_yX3_thinkOf kv_X3_thinkOf kz_X3 kc_X3_thinkOf rfl ok_yX3_thinkOf ⟨Nat.le_of_ble_eq_true rfl, Nat.le_of_ble_eq_true rfl⟩ rfl rfl rfl rfl hl.1 (Nat.le_of_ble_eq_true rfl) dX9_leastLoud_31 ⟨Nat.zero_le _, Nat.zero_le _⟩) (fun H locs hw => ?_)
  refine lv_iconst (v := 0) hx hb dX9_leastLoud_34 (by decide) ?_
  refine lv_istore (lv' := [(4, .int (0 : Int32)), (3, .int r3), (0, .ref (xq X 27)), (1, .int a1), (2, .int a2)]) hx hb dX9_leastLoud_35 hl (by decide) rfl (fun ls hl => ?_)
  exact tX9_leastLoud_37 C hr n r7 a1 r3 (0 : Int32) _ _ _ hw (lv_sub hl [2, 3, 1, 0] rfl) hf
theorem dX9_weighOthers_0 : decode cX9_weighOthers 0 = .ok (.iconst 0, 1) := by decide +kernel
theorem dX9_weighOthers_1 : decode cX9_weighOthers 1 = .ok (.istore_n 3, 1) := by decide +kernel
theorem dX9_weighOthers_2 : decode cX9_weighOthers 2 = .ok (.iload_n 3, 1) := by decide +kernel
theorem dX9_weighOthers_3 : decode cX9_weighOthers 3 = .ok (.aload_n 0, 1) := by decide +kernel
theorem dX9_weighOthers_4 : decode cX9_weighOthers 4 = .ok (.getfield 26, 3) := by decide +kernel
theorem dX9_weighOthers_7 : decode cX9_weighOthers 7 = .ok (.getfield 91, 3) := by decide +kernel
theorem dX9_weighOthers_10 : decode cX9_weighOthers 10 = .ok (.if_icmp .ge 85, 3) := by decide +kernel
theorem dX9_weighOthers_13 : decode cX9_weighOthers 13 = .ok (.aload_n 0, 1) := by decide +kernel
theorem dX9_weighOthers_14 : decode cX9_weighOthers 14 = .ok (.getfield 11, 3) := by decide +kernel
theorem dX9_weighOthers_17 : decode cX9_weighOthers 17 = .ok (.iload_n 3, 1) := by decide +kernel
theorem dX9_weighOthers_18 : decode cX9_weighOthers 18 = .ok (.aload_n 0, 1) := by decide +kernel
theorem dX9_weighOthers_19 : decode cX9_weighOthers 19 = .ok (.getfield 26, 3) := by decide +kernel
theorem dX9_weighOthers_22 : decode cX9_weighOthers 22 = .ok (.aload_n 0, 1) := by decide +kernel
theorem dX9_weighOthers_23 : decode cX9_weighOthers 23 = .ok (.getfield 26, 3) := by decide +kernel
theorem dX9_weighOthers_26 : decode cX9_weighOthers 26 = .ok (.iload_n 3, 1) := by decide +kernel
theorem dX9_weighOthers_27 : decode cX9_weighOthers 27 = .ok (.invokevirtual 50, 3) := by decide +kernel
theorem dX9_weighOthers_30 : decode cX9_weighOthers 30 = .ok (.invokevirtual 38, 3) := by decide +kernel
theorem dX9_weighOthers_33 : decode cX9_weighOthers 33 = .ok (.iastore, 1) := by decide +kernel
theorem dX9_weighOthers_34 : decode cX9_weighOthers 34 = .ok (.aload_n 0, 1) := by decide +kernel
theorem dX9_weighOthers_35 : decode cX9_weighOthers 35 = .ok (.getfield 30, 3) := by decide +kernel
theorem dX9_weighOthers_38 : decode cX9_weighOthers 38 = .ok (.iload_n 3, 1) := by decide +kernel
theorem dX9_weighOthers_39 : decode cX9_weighOthers 39 = .ok (.aload_n 0, 1) := by decide +kernel
theorem dX9_weighOthers_40 : decode cX9_weighOthers 40 = .ok (.getfield 11, 3) := by decide +kernel
theorem dX9_weighOthers_43 : decode cX9_weighOthers 43 = .ok (.iload_n 3, 1) := by decide +kernel
theorem dX9_weighOthers_44 : decode cX9_weighOthers 44 = .ok (.iaload, 1) := by decide +kernel
theorem dX9_weighOthers_45 : decode cX9_weighOthers 45 = .ok (.iload_n 1, 1) := by decide +kernel
theorem dX9_weighOthers_46 : decode cX9_weighOthers 46 = .ok (.invokevirtual 53, 3) := by decide +kernel
theorem dX9_weighOthers_49 : decode cX9_weighOthers 49 = .ok (.aload_n 0, 1) := by decide +kernel
theorem dX9_weighOthers_50 : decode cX9_weighOthers 50 = .ok (.getfield 17, 3) := by decide +kernel
theorem dX9_weighOthers_53 : decode cX9_weighOthers 53 = .ok (.iload_n 3, 1) := by decide +kernel
theorem dX9_weighOthers_54 : decode cX9_weighOthers 54 = .ok (.aload_n 0, 1) := by decide +kernel
theorem dX9_weighOthers_55 : decode cX9_weighOthers 55 = .ok (.getfield 30, 3) := by decide +kernel
theorem dX9_weighOthers_58 : decode cX9_weighOthers 58 = .ok (.getfield 78, 3) := by decide +kernel
theorem dX9_weighOthers_61 : decode cX9_weighOthers 61 = .ok (.iastore, 1) := by decide +kernel
theorem dX9_weighOthers_62 : decode cX9_weighOthers 62 = .ok (.aload_n 0, 1) := by decide +kernel
theorem dX9_weighOthers_63 : decode cX9_weighOthers 63 = .ok (.getfield 20, 3) := by decide +kernel
theorem dX9_weighOthers_66 : decode cX9_weighOthers 66 = .ok (.iload_n 3, 1) := by decide +kernel
theorem dX9_weighOthers_67 : decode cX9_weighOthers 67 = .ok (.aload_n 0, 1) := by decide +kernel
theorem dX9_weighOthers_68 : decode cX9_weighOthers 68 = .ok (.getfield 30, 3) := by decide +kernel
theorem dX9_weighOthers_71 : decode cX9_weighOthers 71 = .ok (.getfield 97, 3) := by decide +kernel
theorem dX9_weighOthers_74 : decode cX9_weighOthers 74 = .ok (.iastore, 1) := by decide +kernel
theorem dX9_weighOthers_75 : decode cX9_weighOthers 75 = .ok (.aload_n 0, 1) := by decide +kernel
theorem dX9_weighOthers_76 : decode cX9_weighOthers 76 = .ok (.getfield 23, 3) := by decide +kernel
theorem dX9_weighOthers_79 : decode cX9_weighOthers 79 = .ok (.iload_n 3, 1) := by decide +kernel
theorem dX9_weighOthers_80 : decode cX9_weighOthers 80 = .ok (.aload_n 0, 1) := by decide +kernel
theorem dX9_weighOthers_81 : decode cX9_weighOthers 81 = .ok (.getfield 30, 3) := by decide +kernel
theorem dX9_weighOthers_84 : decode cX9_weighOthers 84 = .ok (.iload_n 2, 1) := by decide +kernel
theorem dX9_weighOthers_85 : decode cX9_weighOthers 85 = .ok (.invokevirtual 99, 3) := by decide +kernel
theorem dX9_weighOthers_88 : decode cX9_weighOthers 88 = .ok (.iastore, 1) := by decide +kernel
theorem dX9_weighOthers_89 : decode cX9_weighOthers 89 = .ok (.iinc 3 1, 3) := by decide +kernel
theorem dX9_weighOthers_92 : decode cX9_weighOthers 92 = .ok (.goto (-90), 3) := by decide +kernel
theorem dX9_weighOthers_95 : decode cX9_weighOthers 95 = .ok (.return_, 1) := by decide +kernel
theorem ok_yX9_weighOthers : yOk yX9_weighOthers 2 := ⟨by decide +kernel, by decide +kernel, by decide +kernel⟩
def fX9_weighOthers_2 (n : Nat) : Nat → St → Int32 → Int32 → Int32 → Option (St)
  | 0, _, _, _, _ => none
  | k + 1, st, v1, v2, v3 => if gI st 1 2 ≤ v3 then (some st) else ((fX3_fieldUnder n st v3).bind (fun r2 => (fX3_ownerOf st r2).bind (fun r4 => gd (inB v3 10) (bnd (sI st 28 v3.toNatClampNeg r4) (fun st7 => gd (inB v3 10) ((fX6_weigh n st7 v3 (gI st7 28 v3.toNatClampNeg) v1).bind (fun r10 => gd (inB v3 10) (bnd (sI r10 29 v3.toNatClampNeg (gI r10 24 1)) (fun st13 => gd (inB v3 10) (bnd (sI st13 30 v3.toNatClampNeg (gI st13 24 3)) (fun st16 => (fX6_cryingOf n st16 v2).bind (fun r18 => gd (inB v3 10) (bnd (sI st16 31 v3.toNatClampNeg r18) (fun st21 => bnd (v3 + (1 : Int32)) (fun x23 => fX9_weighOthers_2 n k st21 v1 v2 x23)))))))))))))))
set_option maxHeartbeats 4000000 in
theorem tX9_weighOthers_2 {p : Program} {l : Launch} {e : Env} {s : State} {m : MethodId} {args : Array Value} {below : List Frame} {meth : Method} {c : Code} {X : WX} (C : Amb 65 X p s m args meth c cX9_weighOthers 4 RX9) (hr : meth.sig.returnType = none) {R : St} {n : Nat} : ∀ (k : Nat) (st : St) (v1 : Int32) (v2 : Int32) (v3 : Int32) (H : Heap) (locs : List Loc) (ls : Array Slot), Wd EC 65 X s.heap st H locs → lv_has ls 4 [(0, .ref (xq X 27)), (1, .int v1), (2, .int v2), (3, .int v3)] → fX9_weighOthers_2 n k st v1 v2 v3 = some R → W p l e { frames := 4, cells := 0, slots := 0, locals := 103 } s m args below meth c H locs 0 0 (QV EC 65 X R below args s) (F0 m 2 ls []) := by
  obtain ⟨hx, hb, hml, hown, hts⟩ := id C.1
  intro k
  induction k with
  | zero => intro st v1 v2 v3 H locs ls  hw hl hf; exact absurd (show none = some R from hf) (fun z => by cases z)
  | succ k ih =>
    intro st v1 v2 v3 H locs ls  hw hl hf
    rw [fX9_weighOthers_2] at hf
    refine lv_iload_n hx hb dX9_weighOthers_2 rfl (lv_at hl 3 rfl) ?_
    refine lv_aload_n hx hb dX9_weighOthers_3 rfl (lv_at hl 0 rfl) ?_
    refine w_get (T := TX9) C hw (by decide) 2 kf_X9_26 (EC_27 X _ _) rfl inA9 (by decide) rfl dX9_weighOthers_4 ?_
    refine w_get (T := TX3) C hw (by decide) 2 kf_X9_91 (EC_1 X _ _) rfl inA3 (by decide) rfl dX9_weighOthers_7 ?_
    refine lv_icmp_ge (tgt := 95) hx hb dX9_weighOthers_10 (by decide) (fun c1 => ?_) (fun c1 => ?_)
    · replace hf := ite_t hf c1
      exact w_vret C hw hr (Option.some.inj hf) dX9_weighOthers_95
    · replace hf := ite_f hf c1
      refine lv_aload_n hx hb dX9_weighOthers_13 rfl (lv_at hl 0 rfl) ?_
      refine w_get (T := TX9) C hw (by decide) 4 kf_X9_11 (EC_27 X _ _) rfl inA9 (by decide) rfl dX9_weighOthers_14 ?_
      refine lv_iload_n hx hb dX9_weighOthers_17 rfl (lv_at hl 3 rfl) ?_
      refine lv_aload_n hx hb dX9_weighOthers_18 rfl (lv_at hl 0 rfl) ?_
      refine w_get (T := TX9) C hw (by decide) 2 kf_X9_26 (EC_27 X _ _) rfl inA9 (by decide) rfl dX9_weighOthers_19 ?_
      refine lv_aload_n hx hb dX9_weighOthers_22 rfl (lv_at hl 0 rfl) ?_
      refine w_get (T := TX9) C hw (by decide) 2 kf_X9_26 (EC_27 X _ _) rfl inA9 (by decide) rfl dX9_weighOthers_23 ?_
      refine lv_iload_n hx hb dX9_weighOthers_26 rfl (lv_at hl 3 rfl) ?_
      obtain ⟨r2, k3, hf⟩ := bd_some hf
      refine w_goI hw (w_runV (rest := [.ref (xq X 1), .int v3, .ref (xq X 28)]) C hw (zX3_fieldUnder _ _ n st v3 r2 k3) (by decide) (EC_1 X _ _) rfl km_X9_50 ki_yX3_fieldUnder kv_X3_fieldUnder kz_X3 kc_X3_fieldUnder rfl ok_yX3_fieldUnder ⟨Nat.le_of_ble_eq_true rfl, Nat.le_of_ble_eq_true rfl⟩ rfl rfl rfl rfl hl.1 (Nat.le_of_ble_eq_true rfl) dX9_weighOthers_27 ⟨Nat.zero_le _, Nat.zero_le _⟩) (fun H locs hw => ?_)
      obtain ⟨r4, k5, hf⟩ := bd_some hf
      refine w_goI hw (w_runV (rest := [.int v3, .ref (xq X 28)]) C hw (zX3_ownerOf _ _ st r2 r4 k5) (by decide) (EC_1 X _ _) rfl km_X9_38 ki_yX3_ownerOf kv_X3_ownerOf kz_X3 kc_X3_ownerOf rfl ok_yX3_ownerOf ⟨Nat.le_of_ble_eq_true rfl, Nat.le_of_ble_eq_true rfl⟩ rfl rfl rfl rfl hl.1 (Nat.le_of_ble_eq_true rfl) dX9_weighOthers_30 ⟨Nat.zero_le _, Nat.zero_le _⟩) (fun H locs hw => ?_)
      obtain ⟨h6, hf⟩ := gd_some hf
      obtain ⟨st7, es8⟩ : ∃ z : St, z = sI st 28 v3.toNatClampNeg r4 := ⟨_, rfl⟩
      replace hf := bnd_nm hf es8
      refine w_iast C hw (by decide) (fun f9 => EC_28 X f9 _) h6 rfl dX9_weighOthers_33 (fun H locs hw => ?_)
      rw [← es8] at hw
      refine lv_aload_n hx hb dX9_weighOthers_34 rfl (lv_at hl 0 rfl) ?_
      refine w_get (T := TX9) C hw (by decide) 3 kf_X9_30 (EC_27 X _ _) rfl inA9 (by decide) rfl dX9_weighOthers_35 ?_
      refine lv_iload_n hx hb dX9_weighOthers_38 rfl (lv_at hl 3 rfl) ?_
      refine lv_aload_n hx hb dX9_weighOthers_39 rfl (lv_at hl 0 rfl) ?_
      refine w_get (T := TX9) C hw (by decide) 4 kf_X9_11 (EC_27 X _ _) rfl inA9 (by decide) rfl dX9_weighOthers_40 ?_
      refine lv_iload_n hx hb dX9_weighOthers_43 rfl (lv_at hl 3 rfl) ?_
      obtain ⟨h9, hf⟩ := gd_some hf
      refine w_iald C hw (by decide) (EC_28 X _ _) h9 rfl dX9_weighOthers_44 ?_
      refine lv_iload_n hx hb dX9_weighOthers_45 rfl (lv_at hl 1 rfl) ?_
      obtain ⟨r10, k11, hf⟩ := bd_some hf
      refine w_goV hw (w_runV (rest := []) C hw (zX6_weigh _ _ n st7 v3 (gI st7 28 v3.toNatClampNeg) v1 r10 k11) (by decide) (EC_24 X _ _) rfl km_X9_53 ki_yX6_weigh kv_X6_weigh kz_X6 kc_X6_weigh rfl ok_yX6_weigh ⟨Nat.le_of_ble_eq_true rfl, Nat.le_of_ble_eq_true rfl⟩ rfl rfl rfl rfl hl.1 (Nat.le_of_ble_eq_true rfl) dX9_weighOthers_46 ⟨Nat.zero_le _, Nat.zero_le _⟩) (fun H locs hw => ?_)
      refine lv_aload_n hx hb dX9_weighOthers_49 rfl (lv_at hl 0 rfl) ?_
      refine w_get (T := TX9) C hw (by decide) 5 kf_X9_17 (EC_27 X _ _) rfl inA9 (by decide) rfl dX9_weighOthers_50 ?_
      refine lv_iload_n hx hb dX9_weighOthers_53 rfl (lv_at hl 3 rfl) ?_
      refine lv_aload_n hx hb dX9_weighOthers_54 rfl (lv_at hl 0 rfl) ?_
      refine w_get (T := TX9) C hw (by decide) 3 kf_X9_30 (EC_27 X _ _) rfl inA9 (by decide) rfl dX9_weighOthers_55 ?_
      refine w_get (T := TX6) C hw (by decide) 1 kf_X9_78 (EC_24 X _ _) rfl inA6 (by decide) rfl dX9_weighOthers_58 ?_
      obtain ⟨h12, hf⟩ := gd_some hf
      obtain ⟨st13, es14⟩ : ∃ z : St, z = sI r10 29 v3.toNatClampNeg (gI r10 24 1) := ⟨_, rfl⟩
      replace hf := bnd_nm hf es14
      refine w_iast C hw (by decide) (fun f9 => EC_29 X f9 _) h12 rfl dX9_weighOthers_61 (fun H locs hw => ?_)
      rw [← es14] at hw
      refine lv_aload_n hx hb dX9_weighOthers_62 rfl (lv_at hl 0 rfl) ?_
      refine w_get (T := TX9) C hw (by decide) 6 kf_X9_20 (EC_27 X _ _) rfl inA9 (by decide) rfl dX9_weighOthers_63 ?_
      refine lv_iload_n hx hb dX9_weighOthers_66 rfl (lv_at hl 3 rfl) ?_
      refine lv_aload_n hx hb dX9_weighOthers_67 rfl (lv_at hl 0 rfl) ?_
      refine w_get (T := TX9) C hw (by decide) 3 kf_X9_30 (EC_27 X _ _) rfl inA9 (by decide) rfl dX9_weighOthers_68 ?_
      refine w_get (T := TX6) C hw (by decide) 3 kf_X9_97 (EC_24 X _ _) rfl inA6 (by decide) rfl dX9_weighOthers_71 ?_
      obtain ⟨h15, hf⟩ := gd_some hf
      obtain ⟨st16, es17⟩ : ∃ z : St, z = sI st13 30 v3.toNatClampNeg (gI st13 24 3) := ⟨_, rfl⟩
      replace hf := bnd_nm hf es17
      refine w_iast C hw (by decide) (fun f9 => EC_30 X f9 _) h15 rfl dX9_weighOthers_74 (fun H locs hw => ?_)
      rw [← es17] at hw
      refine lv_aload_n hx hb dX9_weighOthers_75 rfl (lv_at hl 0 rfl) ?_
      refine w_get (T := TX9) C hw (by decide) 7 kf_X9_23 (EC_27 X _ _) rfl inA9 (by decide) rfl dX9_weighOthers_76 ?_
      refine lv_iload_n hx hb dX9_weighOthers_79 rfl (lv_at hl 3 rfl) ?_
      refine lv_aload_n hx hb dX9_weighOthers_80 rfl (lv_at hl 0 rfl) ?_
      refine w_get (T := TX9) C hw (by decide) 3 kf_X9_30 (EC_27 X _ _) rfl inA9 (by decide) rfl dX9_weighOthers_81 ?_
      refine lv_iload_n hx hb dX9_weighOthers_84 rfl (lv_at hl 2 rfl) ?_
      obtain ⟨r18, k19, hf⟩ := bd_some hf
      refine w_goI hw (w_runV (rest := [.int v3, .ref (xq X 31)]) C hw (zX6_cryingOf _ _ n st16 v2 r18 k19) (by decide) (EC_24 X _ _) rfl km_X9_99 ki_yX6_cryingOf kv_X6_cryingOf kz_X6 kc_X6_cryingOf rfl ok_yX6_cryingOf ⟨Nat.le_of_ble_eq_true rfl, Nat.le_of_ble_eq_true rfl⟩ rfl rfl rfl rfl hl.1 (Nat.le_of_ble_eq_true rfl) dX9_weighOthers_85 ⟨Nat.zero_le _, Nat.zero_le _⟩) (fun H locs hw => ?_)
      obtain ⟨h20, hf⟩ := gd_some hf
      obtain ⟨st21, es22⟩ : ∃ z : St, z = sI st16 31 v3.toNatClampNeg r18 := ⟨_, rfl⟩
      replace hf := bnd_nm hf es22
      refine w_iast C hw (by decide) (fun f9 => EC_31 X f9 _) h20 rfl dX9_weighOthers_88 (fun H locs hw => ?_)
      rw [← es22] at hw
      obtain ⟨x23, e24⟩ : ∃ z : Int32, z = v3 + (1 : Int32) := ⟨_, rfl⟩
      replace hf := bnd_nm hf e24
      refine lv_iinc (v := x23) (lv' := [(3, .int x23), (0, .ref (xq X 27)), (1, .int v1), (2, .int v2)]) hx hb dX9_weighOthers_89 hl (k := 3) rfl (by rw [e24]; rfl) (by decide) rfl (fun ls hl => ?_)
      refine lv_goto (tgt := 2) hx hb dX9_weighOthers_92 (by decide) ?_
      exact ih st21 v1 v2 x23 _ _ _ hw (lv_sub hl [1, 2, 3, 0] rfl) hf
def fX9_weighOthers (n : Nat) (st : St) (a1 : Int32) (a2 : Int32) : Option (St) := fX9_weighOthers_2 n n st a1 a2 (0 : Int32)
set_option maxHeartbeats 4000000 in
theorem zX9_weighOthers (l : Launch) (X : WX) (n : Nat) (st : St) (a1 : Int32) (a2 : Int32) (R : St) (hf : fX9_weighOthers n st a1 a2 = some R) : CtV l yX9_weighOthers cX9_weighOthers 4 ({ frames := 4, cells := 0, slots := 0, locals := 103 }) EC 65 X [.ref (xq X 27), .int a1, .int a2] st R := by
  refine ct_in (own := RX9) (by decide +kernel) rfl (Nat.le_of_ble_eq_true rfl) (fun p e s m below meth c C hr hw ls hl => ?_)
  obtain ⟨hx, hb, hml, hown, hts⟩ := id C.1
  have hl : lv_has ls 4 [(0, .ref (xq X 27)), (1, .int a1), (2, .int a2)] := hl
  unfold fX9_weighOthers at hf
  refine lv_iconst (v := 0) hx hb dX9_weighOthers_0 (by decide) ?_
  refine lv_istore_n (lv' := [(3, .int (0 : Int32)), (0, .ref (xq X 27)), (1, .int a1), (2, .int a2)]) hx hb dX9_weighOthers_1 rfl hl (by decide) rfl (fun ls hl => ?_)
  exact tX9_weighOthers_2 C hr n st a1 a2 (0 : Int32) _ _ _ hw (lv_sub hl [1, 2, 3, 0] rfl) hf
theorem dX9_earnedBy_0 : decode cX9_earnedBy 0 = .ok (.aload_n 0, 1) := by decide +kernel
theorem dX9_earnedBy_1 : decode cX9_earnedBy 1 = .ok (.getfield 11, 3) := by decide +kernel
theorem dX9_earnedBy_4 : decode cX9_earnedBy 4 = .ok (.iload_n 1, 1) := by decide +kernel
theorem dX9_earnedBy_5 : decode cX9_earnedBy 5 = .ok (.iaload, 1) := by decide +kernel
theorem dX9_earnedBy_6 : decode cX9_earnedBy 6 = .ok (.ifCond .lt 13, 3) := by decide +kernel
theorem dX9_earnedBy_9 : decode cX9_earnedBy 9 = .ok (.aload_n 0, 1) := by decide +kernel
theorem dX9_earnedBy_10 : decode cX9_earnedBy 10 = .ok (.getfield 11, 3) := by decide +kernel
theorem dX9_earnedBy_13 : decode cX9_earnedBy 13 = .ok (.iload_n 1, 1) := by decide +kernel
theorem dX9_earnedBy_14 : decode cX9_earnedBy 14 = .ok (.iaload, 1) := by decide +kernel
theorem dX9_earnedBy_15 : decode cX9_earnedBy 15 = .ok (.iload_n 2, 1) := by decide +kernel
theorem dX9_earnedBy_16 : decode cX9_earnedBy 16 = .ok (.if_icmp .ne 5, 3) := by decide +kernel
theorem dX9_earnedBy_19 : decode cX9_earnedBy 19 = .ok (.iconst 0, 1) := by decide +kernel
theorem dX9_earnedBy_20 : decode cX9_earnedBy 20 = .ok (.ireturn, 1) := by decide +kernel
theorem dX9_earnedBy_21 : decode cX9_earnedBy 21 = .ok (.aload_n 0, 1) := by decide +kernel
theorem dX9_earnedBy_22 : decode cX9_earnedBy 22 = .ok (.getfield 30, 3) := by decide +kernel
theorem dX9_earnedBy_25 : decode cX9_earnedBy 25 = .ok (.iload_n 1, 1) := by decide +kernel
theorem dX9_earnedBy_26 : decode cX9_earnedBy 26 = .ok (.aload_n 0, 1) := by decide +kernel
theorem dX9_earnedBy_27 : decode cX9_earnedBy 27 = .ok (.getfield 11, 3) := by decide +kernel
theorem dX9_earnedBy_30 : decode cX9_earnedBy 30 = .ok (.iload_n 1, 1) := by decide +kernel
theorem dX9_earnedBy_31 : decode cX9_earnedBy 31 = .ok (.iaload, 1) := by decide +kernel
theorem dX9_earnedBy_32 : decode cX9_earnedBy 32 = .ok (.bipush 12, 2) := by decide +kernel
theorem dX9_earnedBy_34 : decode cX9_earnedBy 34 = .ok (.invokevirtual 74, 3) := by decide +kernel
theorem dX9_earnedBy_37 : decode cX9_earnedBy 37 = .ok (.istore_n 3, 1) := by decide +kernel
theorem dX9_earnedBy_38 : decode cX9_earnedBy 38 = .ok (.iload_n 3, 1) := by decide +kernel
theorem dX9_earnedBy_39 : decode cX9_earnedBy 39 = .ok (.aload_n 0, 1) := by decide +kernel
theorem dX9_earnedBy_40 : decode cX9_earnedBy 40 = .ok (.getfield 17, 3) := by decide +kernel
theorem dX9_earnedBy_43 : decode cX9_earnedBy 43 = .ok (.iload_n 1, 1) := by decide +kernel
theorem dX9_earnedBy_44 : decode cX9_earnedBy 44 = .ok (.iaload, 1) := by decide +kernel
theorem dX9_earnedBy_45 : decode cX9_earnedBy 45 = .ok (.if_icmp .le 6, 3) := by decide +kernel
theorem dX9_earnedBy_48 : decode cX9_earnedBy 48 = .ok (.bipush 12, 2) := by decide +kernel
theorem dX9_earnedBy_50 : decode cX9_earnedBy 50 = .ok (.ireturn, 1) := by decide +kernel
theorem dX9_earnedBy_51 : decode cX9_earnedBy 51 = .ok (.iload_n 3, 1) := by decide +kernel
theorem dX9_earnedBy_52 : decode cX9_earnedBy 52 = .ok (.ifCond .le 17, 3) := by decide +kernel
theorem dX9_earnedBy_55 : decode cX9_earnedBy 55 = .ok (.iload_n 3, 1) := by decide +kernel
theorem dX9_earnedBy_56 : decode cX9_earnedBy 56 = .ok (.aload_n 0, 1) := by decide +kernel
theorem dX9_earnedBy_57 : decode cX9_earnedBy 57 = .ok (.getfield 17, 3) := by decide +kernel
theorem dX9_earnedBy_60 : decode cX9_earnedBy 60 = .ok (.iload_n 1, 1) := by decide +kernel
theorem dX9_earnedBy_61 : decode cX9_earnedBy 61 = .ok (.iaload, 1) := by decide +kernel
theorem dX9_earnedBy_62 : decode cX9_earnedBy 62 = .ok (.if_icmp .ne 7, 3) := by decide +kernel
theorem dX9_earnedBy_65 : decode cX9_earnedBy 65 = .ok (.iconst 1, 1) := by decide +kernel
theorem dX9_earnedBy_66 : decode cX9_earnedBy 66 = .ok (.goto 4, 3) := by decide +kernel
theorem dX9_earnedBy_69 : decode cX9_earnedBy 69 = .ok (.iconst 0, 1) := by decide +kernel
theorem dX9_earnedBy_70 : decode cX9_earnedBy 70 = .ok (.istore 4, 2) := by decide +kernel
theorem dX9_earnedBy_72 : decode cX9_earnedBy 72 = .ok (.iload 4, 2) := by decide +kernel
theorem dX9_earnedBy_74 : decode cX9_earnedBy 74 = .ok (.ifCond .eq 14, 3) := by decide +kernel
theorem dX9_earnedBy_77 : decode cX9_earnedBy 77 = .ok (.aload_n 0, 1) := by decide +kernel
theorem dX9_earnedBy_78 : decode cX9_earnedBy 78 = .ok (.getfield 20, 3) := by decide +kernel
theorem dX9_earnedBy_81 : decode cX9_earnedBy 81 = .ok (.iload_n 1, 1) := by decide +kernel
theorem dX9_earnedBy_82 : decode cX9_earnedBy 82 = .ok (.iaload, 1) := by decide +kernel
theorem dX9_earnedBy_83 : decode cX9_earnedBy 83 = .ok (.iconst 1, 1) := by decide +kernel
theorem dX9_earnedBy_84 : decode cX9_earnedBy 84 = .ok (.iadd, 1) := by decide +kernel
theorem dX9_earnedBy_85 : decode cX9_earnedBy 85 = .ok (.goto 9, 3) := by decide +kernel
theorem dX9_earnedBy_88 : decode cX9_earnedBy 88 = .ok (.aload_n 0, 1) := by decide +kernel
theorem dX9_earnedBy_89 : decode cX9_earnedBy 89 = .ok (.getfield 20, 3) := by decide +kernel
theorem dX9_earnedBy_92 : decode cX9_earnedBy 92 = .ok (.iload_n 1, 1) := by decide +kernel
theorem dX9_earnedBy_93 : decode cX9_earnedBy 93 = .ok (.iaload, 1) := by decide +kernel
theorem dX9_earnedBy_94 : decode cX9_earnedBy 94 = .ok (.istore 5, 2) := by decide +kernel
theorem dX9_earnedBy_96 : decode cX9_earnedBy 96 = .ok (.iload 4, 2) := by decide +kernel
theorem dX9_earnedBy_98 : decode cX9_earnedBy 98 = .ok (.ifCond .eq 14, 3) := by decide +kernel
theorem dX9_earnedBy_101 : decode cX9_earnedBy 101 = .ok (.aload_n 0, 1) := by decide +kernel
theorem dX9_earnedBy_102 : decode cX9_earnedBy 102 = .ok (.getfield 23, 3) := by decide +kernel
theorem dX9_earnedBy_105 : decode cX9_earnedBy 105 = .ok (.iload_n 1, 1) := by decide +kernel
theorem dX9_earnedBy_106 : decode cX9_earnedBy 106 = .ok (.iaload, 1) := by decide +kernel
theorem dX9_earnedBy_107 : decode cX9_earnedBy 107 = .ok (.iconst 1, 1) := by decide +kernel
theorem dX9_earnedBy_108 : decode cX9_earnedBy 108 = .ok (.iadd, 1) := by decide +kernel
theorem dX9_earnedBy_109 : decode cX9_earnedBy 109 = .ok (.goto 9, 3) := by decide +kernel
theorem dX9_earnedBy_112 : decode cX9_earnedBy 112 = .ok (.aload_n 0, 1) := by decide +kernel
theorem dX9_earnedBy_113 : decode cX9_earnedBy 113 = .ok (.getfield 23, 3) := by decide +kernel
theorem dX9_earnedBy_116 : decode cX9_earnedBy 116 = .ok (.iload_n 1, 1) := by decide +kernel
theorem dX9_earnedBy_117 : decode cX9_earnedBy 117 = .ok (.iaload, 1) := by decide +kernel
theorem dX9_earnedBy_118 : decode cX9_earnedBy 118 = .ok (.istore 6, 2) := by decide +kernel
theorem dX9_earnedBy_120 : decode cX9_earnedBy 120 = .ok (.iload 5, 2) := by decide +kernel
theorem dX9_earnedBy_122 : decode cX9_earnedBy 122 = .ok (.ifCond .ne 7, 3) := by decide +kernel
theorem dX9_earnedBy_125 : decode cX9_earnedBy 125 = .ok (.iconst 0, 1) := by decide +kernel
theorem dX9_earnedBy_126 : decode cX9_earnedBy 126 = .ok (.goto 11, 3) := by decide +kernel
theorem dX9_earnedBy_129 : decode cX9_earnedBy 129 = .ok (.bipush 12, 2) := by decide +kernel
theorem dX9_earnedBy_131 : decode cX9_earnedBy 131 = .ok (.iload 5, 2) := by decide +kernel
theorem dX9_earnedBy_133 : decode cX9_earnedBy 133 = .ok (.idiv, 1) := by decide +kernel
theorem dX9_earnedBy_134 : decode cX9_earnedBy 134 = .ok (.iload 6, 2) := by decide +kernel
theorem dX9_earnedBy_136 : decode cX9_earnedBy 136 = .ok (.imul, 1) := by decide +kernel
theorem dX9_earnedBy_137 : decode cX9_earnedBy 137 = .ok (.ireturn, 1) := by decide +kernel
theorem ok_yX9_earnedBy : yOk yX9_earnedBy 2 := ⟨by decide +kernel, by decide +kernel, by decide +kernel⟩
def fX9_earnedBy_118 (n : Nat) (st : St) (v5 : Int32) (w0 : Int32) : Option (Int32 × St) := if v5 = 0 then (some ((0 : Int32), st)) else (some ((((12 : Int32) / v5) * w0), st))
set_option maxHeartbeats 4000000 in
theorem tX9_earnedBy_118 {p : Program} {l : Launch} {e : Env} {s : State} {m : MethodId} {args : Array Value} {below : List Frame} {meth : Method} {c : Code} {X : WX} (C : Amb 65 X p s m args meth c cX9_earnedBy 7 RX9) (hr : meth.sig.returnType = some .int) {R : Int32 × St} {n : Nat} : ∀ (st : St) (v5 : Int32) (w0 : Int32) (H : Heap) (locs : List Loc) (ls : Array Slot), Wd EC 65 X s.heap st H locs → lv_has ls 7 [(5, .int v5)] → fX9_earnedBy_118 n st v5 w0 = some R → W p l e { frames := 3, cells := 0, slots := 0, locals := 78 } s m args below meth c H locs 0 0 (QI EC 65 X R.1 R.2 below args s) (F0 m 118 ls [.int w0]) := by
  obtain ⟨hx, hb, hml, hown, hts⟩ := id C.1
  intro st v5 w0 H locs ls  hw hl hf
  unfold fX9_earnedBy_118 at hf
  refine lv_istore (lv' := [(6, .int w0), (5, .int v5)]) hx hb dX9_earnedBy_118 hl (by decide) rfl (fun ls hl => ?_)
  refine lv_iload hx hb dX9_earnedBy_120 (lv_at hl 1 rfl) ?_
  refine lv_if_ne (tgt := 129) hx hb dX9_earnedBy_122 (by decide) (fun c19 => ?_) (fun c19 => ?_)
  · replace hf := ite_f hf c19
    refine lv_bipush (v := 12) hx hb dX9_earnedBy_129 (by decide) ?_
    refine lv_iload hx hb dX9_earnedBy_131 (lv_at hl 1 rfl) ?_
    refine lv_idiv hx hb dX9_earnedBy_133 c19 ?_
    refine lv_iload hx hb dX9_earnedBy_134 (lv_at hl 0 rfl) ?_
    refine lv_imul hx hb dX9_earnedBy_136 ?_
    exact w_iret C hw hr (so2 hf).1 (so2 hf).2 dX9_earnedBy_137
  · replace hf := ite_t hf c19
    refine lv_iconst (v := 0) hx hb dX9_earnedBy_125 (by decide) ?_
    refine lv_goto (tgt := 137) hx hb dX9_earnedBy_126 (by decide) ?_
    exact w_iret C hw hr (so2 hf).1 (so2 hf).2 dX9_earnedBy_137
def fX9_earnedBy_94 (n : Nat) (st : St) (v1 : Int32) (v4 : Int32) (w0 : Int32) : Option (Int32 × St) := if v4 = 0 then (gd (inB v1 10) (fX9_earnedBy_118 n st w0 (gI st 31 v1.toNatClampNeg))) else (gd (inB v1 10) (fX9_earnedBy_118 n st w0 ((gI st 31 v1.toNatClampNeg) + (1 : Int32))))
set_option maxHeartbeats 4000000 in
theorem tX9_earnedBy_94 {p : Program} {l : Launch} {e : Env} {s : State} {m : MethodId} {args : Array Value} {below : List Frame} {meth : Method} {c : Code} {X : WX} (C : Amb 65 X p s m args meth c cX9_earnedBy 7 RX9) (hr : meth.sig.returnType = some .int) {R : Int32 × St} {n : Nat} : ∀ (st : St) (v1 : Int32) (v4 : Int32) (w0 : Int32) (H : Heap) (locs : List Loc) (ls : Array Slot), Wd EC 65 X s.heap st H locs → lv_has ls 7 [(0, .ref (xq X 27)), (1, .int v1), (4, .int v4)] → fX9_earnedBy_94 n st v1 v4 w0 = some R → W p l e { frames := 3, cells := 0, slots := 0, locals := 78 } s m args below meth c H locs 0 0 (QI EC 65 X R.1 R.2 below args s) (F0 m 94 ls [.int w0]) := by
  obtain ⟨hx, hb, hml, hown, hts⟩ := id C.1
  intro st v1 v4 w0 H locs ls  hw hl hf
  unfold fX9_earnedBy_94 at hf
  refine lv_istore (lv' := [(5, .int w0), (0, .ref (xq X 27)), (1, .int v1), (4, .int v4)]) hx hb dX9_earnedBy_94 hl (by decide) rfl (fun ls hl => ?_)
  refine lv_iload hx hb dX9_earnedBy_96 (lv_at hl 3 rfl) ?_
  refine lv_if_eq (tgt := 112) hx hb dX9_earnedBy_98 (by decide) (fun c16 => ?_) (fun c16 => ?_)
  · replace hf := ite_t hf c16
    refine lv_aload_n hx hb dX9_earnedBy_112 rfl (lv_at hl 1 rfl) ?_
    refine w_get (T := TX9) C hw (by decide) 7 kf_X9_23 (EC_27 X _ _) rfl inA9 (by decide) rfl dX9_earnedBy_113 ?_
    refine lv_iload_n hx hb dX9_earnedBy_116 rfl (lv_at hl 2 rfl) ?_
    obtain ⟨h17, hf⟩ := gd_some hf
    refine w_iald C hw (by decide) (EC_31 X _ _) h17 rfl dX9_earnedBy_117 ?_
    exact tX9_earnedBy_118 C hr st w0 (gI st 31 v1.toNatClampNeg) _ _ _ hw (lv_sub hl [0] rfl) hf
  · replace hf := ite_f hf c16
    refine lv_aload_n hx hb dX9_earnedBy_101 rfl (lv_at hl 1 rfl) ?_
    refine w_get (T := TX9) C hw (by decide) 7 kf_X9_23 (EC_27 X _ _) rfl inA9 (by decide) rfl dX9_earnedBy_102 ?_
    refine lv_iload_n hx hb dX9_earnedBy_105 rfl (lv_at hl 2 rfl) ?_
    obtain ⟨h18, hf⟩ := gd_some hf
    refine w_iald C hw (by decide) (EC_31 X _ _) h18 rfl dX9_earnedBy_106 ?_
    refine lv_iconst (v := 1) hx hb dX9_earnedBy_107 (by decide) ?_
    refine lv_iadd hx hb dX9_earnedBy_108 ?_
    refine lv_goto (tgt := 118) hx hb dX9_earnedBy_109 (by decide) ?_
    exact tX9_earnedBy_118 C hr st w0 ((gI st 31 v1.toNatClampNeg) + (1 : Int32)) _ _ _ hw (lv_sub hl [0] rfl) hf
def fX9_earnedBy_70 (n : Nat) (st : St) (v1 : Int32) (w0 : Int32) : Option (Int32 × St) := if w0 = 0 then (gd (inB v1 10) (fX9_earnedBy_94 n st v1 w0 (gI st 30 v1.toNatClampNeg))) else (gd (inB v1 10) (fX9_earnedBy_94 n st v1 w0 ((gI st 30 v1.toNatClampNeg) + (1 : Int32))))
set_option maxHeartbeats 4000000 in
theorem tX9_earnedBy_70 {p : Program} {l : Launch} {e : Env} {s : State} {m : MethodId} {args : Array Value} {below : List Frame} {meth : Method} {c : Code} {X : WX} (C : Amb 65 X p s m args meth c cX9_earnedBy 7 RX9) (hr : meth.sig.returnType = some .int) {R : Int32 × St} {n : Nat} : ∀ (st : St) (v1 : Int32) (w0 : Int32) (H : Heap) (locs : List Loc) (ls : Array Slot), Wd EC 65 X s.heap st H locs → lv_has ls 7 [(0, .ref (xq X 27)), (1, .int v1)] → fX9_earnedBy_70 n st v1 w0 = some R → W p l e { frames := 3, cells := 0, slots := 0, locals := 78 } s m args below meth c H locs 0 0 (QI EC 65 X R.1 R.2 below args s) (F0 m 70 ls [.int w0]) := by
  obtain ⟨hx, hb, hml, hown, hts⟩ := id C.1
  intro st v1 w0 H locs ls  hw hl hf
  unfold fX9_earnedBy_70 at hf
  refine lv_istore (lv' := [(4, .int w0), (0, .ref (xq X 27)), (1, .int v1)]) hx hb dX9_earnedBy_70 hl (by decide) rfl (fun ls hl => ?_)
  refine lv_iload hx hb dX9_earnedBy_72 (lv_at hl 0 rfl) ?_
  refine lv_if_eq (tgt := 88) hx hb dX9_earnedBy_74 (by decide) (fun c13 => ?_) (fun c13 => ?_)
  · replace hf := ite_t hf c13
    refine lv_aload_n hx hb dX9_earnedBy_88 rfl (lv_at hl 1 rfl) ?_
    refine w_get (T := TX9) C hw (by decide) 6 kf_X9_20 (EC_27 X _ _) rfl inA9 (by decide) rfl dX9_earnedBy_89 ?_
    refine lv_iload_n hx hb dX9_earnedBy_92 rfl (lv_at hl 2 rfl) ?_
    obtain ⟨h14, hf⟩ := gd_some hf
    refine w_iald C hw (by decide) (EC_30 X _ _) h14 rfl dX9_earnedBy_93 ?_
    exact tX9_earnedBy_94 C hr st v1 w0 (gI st 30 v1.toNatClampNeg) _ _ _ hw (lv_sub hl [1, 2, 0] rfl) hf
  · replace hf := ite_f hf c13
    refine lv_aload_n hx hb dX9_earnedBy_77 rfl (lv_at hl 1 rfl) ?_
    refine w_get (T := TX9) C hw (by decide) 6 kf_X9_20 (EC_27 X _ _) rfl inA9 (by decide) rfl dX9_earnedBy_78 ?_
    refine lv_iload_n hx hb dX9_earnedBy_81 rfl (lv_at hl 2 rfl) ?_
    obtain ⟨h15, hf⟩ := gd_some hf
    refine w_iald C hw (by decide) (EC_30 X _ _) h15 rfl dX9_earnedBy_82 ?_
    refine lv_iconst (v := 1) hx hb dX9_earnedBy_83 (by decide) ?_
    refine lv_iadd hx hb dX9_earnedBy_84 ?_
    refine lv_goto (tgt := 94) hx hb dX9_earnedBy_85 (by decide) ?_
    exact tX9_earnedBy_94 C hr st v1 w0 ((gI st 30 v1.toNatClampNeg) + (1 : Int32)) _ _ _ hw (lv_sub hl [1, 2, 0] rfl) hf
def fX9_earnedBy_69 (n : Nat) (st : St) (v1 : Int32) : Option (Int32 × St) := fX9_earnedBy_70 n st v1 (0 : Int32)
set_option maxHeartbeats 4000000 in
theorem tX9_earnedBy_69 {p : Program} {l : Launch} {e : Env} {s : State} {m : MethodId} {args : Array Value} {below : List Frame} {meth : Method} {c : Code} {X : WX} (C : Amb 65 X p s m args meth c cX9_earnedBy 7 RX9) (hr : meth.sig.returnType = some .int) {R : Int32 × St} {n : Nat} : ∀ (st : St) (v1 : Int32) (H : Heap) (locs : List Loc) (ls : Array Slot), Wd EC 65 X s.heap st H locs → lv_has ls 7 [(0, .ref (xq X 27)), (1, .int v1)] → fX9_earnedBy_69 n st v1 = some R → W p l e { frames := 3, cells := 0, slots := 0, locals := 78 } s m args below meth c H locs 0 0 (QI EC 65 X R.1 R.2 below args s) (F0 m 69 ls []) := by
  obtain ⟨hx, hb, hml, hown, hts⟩ := id C.1
  intro st v1 H locs ls  hw hl hf
  unfold fX9_earnedBy_69 at hf
  refine lv_iconst (v := 0) hx hb dX9_earnedBy_69 (by decide) ?_
  exact tX9_earnedBy_70 C hr st v1 (0 : Int32) _ _ _ hw (lv_sub hl [0, 1] rfl) hf
def fX9_earnedBy (n : Nat) (st : St) (a1 : Int32) (a2 : Int32) : Option (Int32 × St) := gd (inB a1 10) (if gI st 28 a1.toNatClampNeg < 0 then (some ((0 : Int32), st)) else (gd (inB a1 10) (if gI st 28 a1.toNatClampNeg = a2 then (some ((0 : Int32), st)) else (gd (inB a1 10) ((fX6_countIf n st a1 (gI st 28 a1.toNatClampNeg) (12 : Int32)).bind (fun r6 => gd (inB a1 10) (if r6.1 ≤ gI r6.2 29 a1.toNatClampNeg then (if r6.1 ≤ 0 then (fX9_earnedBy_69 n r6.2 a1) else (gd (inB a1 10) (if r6.1 = gI r6.2 29 a1.toNatClampNeg then (fX9_earnedBy_70 n r6.2 a1 (1 : Int32)) else (fX9_earnedBy_69 n r6.2 a1)))) else (some ((12 : Int32), r6.2)))))))))
set_option maxHeartbeats 4000000 in
theorem zX9_earnedBy (l : Launch) (X : WX) (n : Nat) (st : St) (a1 : Int32) (a2 : Int32) (R : Int32 × St) (hf : fX9_earnedBy n st a1 a2 = some R) : CtI l yX9_earnedBy cX9_earnedBy 7 .int ({ frames := 3, cells := 0, slots := 0, locals := 78 }) EC 65 X [.ref (xq X 27), .int a1, .int a2] st R.1 R.2 := by
  refine ct_in (own := RX9) (by decide +kernel) rfl (Nat.le_of_ble_eq_true rfl) (fun p e s m below meth c C hr hw ls hl => ?_)
  obtain ⟨hx, hb, hml, hown, hts⟩ := id C.1
  have hl : lv_has ls 7 [(0, .ref (xq X 27)), (1, .int a1), (2, .int a2)] := hl
  unfold fX9_earnedBy at hf
  refine lv_aload_n hx hb dX9_earnedBy_0 rfl (lv_at hl 0 rfl) ?_
  refine w_get (T := TX9) C hw (by decide) 4 kf_X9_11 (EC_27 X _ _) rfl inA9 (by decide) rfl dX9_earnedBy_1 ?_
  refine lv_iload_n hx hb dX9_earnedBy_4 rfl (lv_at hl 1 rfl) ?_
  obtain ⟨h1, hf⟩ := gd_some hf
  refine w_iald C hw (by decide) (EC_28 X _ _) h1 rfl dX9_earnedBy_5 ?_
  refine lv_if_lt (tgt := 19) hx hb dX9_earnedBy_6 (by decide) (fun c2 => ?_) (fun c2 => ?_)
  · replace hf := ite_t hf c2
    refine lv_iconst (v := 0) hx hb dX9_earnedBy_19 (by decide) ?_
    exact w_iret C hw hr (so2 hf).1 (so2 hf).2 dX9_earnedBy_20
  · replace hf := ite_f hf c2
    refine lv_aload_n hx hb dX9_earnedBy_9 rfl (lv_at hl 0 rfl) ?_
    refine w_get (T := TX9) C hw (by decide) 4 kf_X9_11 (EC_27 X _ _) rfl inA9 (by decide) rfl dX9_earnedBy_10 ?_
    refine lv_iload_n hx hb dX9_earnedBy_13 rfl (lv_at hl 1 rfl) ?_
    obtain ⟨h3, hf⟩ := gd_some hf
    refine w_iald C hw (by decide) (EC_28 X _ _) h3 rfl dX9_earnedBy_14 ?_
    refine lv_iload_n hx hb dX9_earnedBy_15 rfl (lv_at hl 2 rfl) ?_
    refine lv_icmp_ne (tgt := 21) hx hb dX9_earnedBy_16 (by decide) (fun c4 => ?_) (fun c4 => ?_)
    · replace hf := ite_f hf c4
      refine lv_aload_n hx hb dX9_earnedBy_21 rfl (lv_at hl 0 rfl) ?_
      refine w_get (T := TX9) C hw (by decide) 3 kf_X9_30 (EC_27 X _ _) rfl inA9 (by decide) rfl dX9_earnedBy_22 ?_
      refine lv_iload_n hx hb dX9_earnedBy_25 rfl (lv_at hl 1 rfl) ?_
      refine lv_aload_n hx hb dX9_earnedBy_26 rfl (lv_at hl 0 rfl) ?_
      refine w_get (T := TX9) C hw (by decide) 4 kf_X9_11 (EC_27 X _ _) rfl inA9 (by decide) rfl dX9_earnedBy_27 ?_
      refine lv_iload_n hx hb dX9_earnedBy_30 rfl (lv_at hl 1 rfl) ?_
      obtain ⟨h5, hf⟩ := gd_some hf
      refine w_iald C hw (by decide) (EC_28 X _ _) h5 rfl dX9_earnedBy_31 ?_
      refine lv_bipush (v := 12) hx hb dX9_earnedBy_32 (by decide) ?_
      obtain ⟨r6, k7, hf⟩ := bd_some hf
      refine w_goI hw (w_runV (rest := []) C hw (zX6_countIf _ _ n st a1 (gI st 28 a1.toNatClampNeg) (12 : Int32) r6 k7) (by decide) (EC_24 X _ _) rfl km_X9_74 ki_yX6_countIf kv_X6_countIf kz_X6 kc_X6_countIf rfl ok_yX6_countIf ⟨Nat.le_of_ble_eq_true rfl, Nat.le_of_ble_eq_true rfl⟩ rfl rfl rfl rfl hl.1 (Nat.le_of_ble_eq_true rfl) dX9_earnedBy_34 ⟨Nat.zero_le _, Nat.zero_le _⟩) (fun H locs hw => ?_)
      refine lv_istore_n (lv' := [(3, .int r6.1), (0, .ref (xq X 27)), (1, .int a1), (2, .int a2)]) hx hb dX9_earnedBy_37 rfl hl (by decide) rfl (fun ls hl => ?_)
      refine lv_iload_n hx hb dX9_earnedBy_38 rfl (lv_at hl 0 rfl) ?_
      refine lv_aload_n hx hb dX9_earnedBy_39 rfl (lv_at hl 1 rfl) ?_
      refine w_get (T := TX9) C hw (by decide) 5 kf_X9_17 (EC_27 X _ _) rfl inA9 (by decide) rfl dX9_earnedBy_40 ?_
      refine lv_iload_n hx hb dX9_earnedBy_43 rfl (lv_at hl 2 rfl) ?_
      obtain ⟨h8, hf⟩ := gd_some hf
      refine w_iald C hw (by decide) (EC_29 X _ _) h8 rfl dX9_earnedBy_44 ?_
      refine lv_icmp_le (tgt := 51) hx hb dX9_earnedBy_45 (by decide) (fun c9 => ?_) (fun c9 => ?_)
      · replace hf := ite_t hf c9
        refine lv_iload_n hx hb dX9_earnedBy_51 rfl (lv_at hl 0 rfl) ?_
        refine lv_if_le (tgt := 69) hx hb dX9_earnedBy_52 (by decide) (fun c10 => ?_) (fun c10 => ?_)
        · replace hf := ite_t hf c10
          exact tX9_earnedBy_69 C hr r6.2 a1 _ _ _ hw (lv_sub hl [1, 2] rfl) hf
        · replace hf := ite_f hf c10
          refine lv_iload_n hx hb dX9_earnedBy_55 rfl (lv_at hl 0 rfl) ?_
          refine lv_aload_n hx hb dX9_earnedBy_56 rfl (lv_at hl 1 rfl) ?_
          refine w_get (T := TX9) C hw (by decide) 5 kf_X9_17 (EC_27 X _ _) rfl inA9 (by decide) rfl dX9_earnedBy_57 ?_
          refine lv_iload_n hx hb dX9_earnedBy_60 rfl (lv_at hl 2 rfl) ?_
          obtain ⟨h11, hf⟩ := gd_some hf
          refine w_iald C hw (by decide) (EC_29 X _ _) h11 rfl dX9_earnedBy_61 ?_
          refine lv_icmp_ne (tgt := 69) hx hb dX9_earnedBy_62 (by decide) (fun c12 => ?_) (fun c12 => ?_)
          · replace hf := ite_f hf c12
            exact tX9_earnedBy_69 C hr r6.2 a1 _ _ _ hw (lv_sub hl [1, 2] rfl) hf
          · replace hf := ite_t hf c12
            refine lv_iconst (v := 1) hx hb dX9_earnedBy_65 (by decide) ?_
            refine lv_goto (tgt := 70) hx hb dX9_earnedBy_66 (by decide) ?_
            exact tX9_earnedBy_70 C hr r6.2 a1 (1 : Int32) _ _ _ hw (lv_sub hl [1, 2] rfl) hf
      · replace hf := ite_f hf c9
        refine lv_bipush (v := 12) hx hb dX9_earnedBy_48 (by decide) ?_
        exact w_iret C hw hr (so2 hf).1 (so2 hf).2 dX9_earnedBy_50
    · replace hf := ite_t hf c4
      refine lv_iconst (v := 0) hx hb dX9_earnedBy_19 (by decide) ?_
      exact w_iret C hw hr (so2 hf).1 (so2 hf).2 dX9_earnedBy_20
theorem dX9_seekMinute_0 : decode cX9_seekMinute 0 = .ok (.aload_n 0, 1) := by decide +kernel
theorem dX9_seekMinute_1 : decode cX9_seekMinute 1 = .ok (.getfield 26, 3) := by decide +kernel
theorem dX9_seekMinute_4 : decode cX9_seekMinute 4 = .ok (.getfield 34, 3) := by decide +kernel
theorem dX9_seekMinute_7 : decode cX9_seekMinute 7 = .ok (.bipush 10, 2) := by decide +kernel
theorem dX9_seekMinute_9 : decode cX9_seekMinute 9 = .ok (.aaload, 1) := by decide +kernel
theorem dX9_seekMinute_10 : decode cX9_seekMinute 10 = .ok (.iload_n 1, 1) := by decide +kernel
theorem dX9_seekMinute_11 : decode cX9_seekMinute 11 = .ok (.iaload, 1) := by decide +kernel
theorem dX9_seekMinute_12 : decode cX9_seekMinute 12 = .ok (.istore_n 2, 1) := by decide +kernel
theorem dX9_seekMinute_13 : decode cX9_seekMinute 13 = .ok (.aload_n 0, 1) := by decide +kernel
theorem dX9_seekMinute_14 : decode cX9_seekMinute 14 = .ok (.iload_n 1, 1) := by decide +kernel
theorem dX9_seekMinute_15 : decode cX9_seekMinute 15 = .ok (.iload_n 2, 1) := by decide +kernel
theorem dX9_seekMinute_16 : decode cX9_seekMinute 16 = .ok (.invokevirtual 81, 3) := by decide +kernel
theorem dX9_seekMinute_19 : decode cX9_seekMinute 19 = .ok (.aload_n 0, 1) := by decide +kernel
theorem dX9_seekMinute_20 : decode cX9_seekMinute 20 = .ok (.getfield 26, 3) := by decide +kernel
theorem dX9_seekMinute_23 : decode cX9_seekMinute 23 = .ok (.iload_n 1, 1) := by decide +kernel
theorem dX9_seekMinute_24 : decode cX9_seekMinute 24 = .ok (.invokevirtual 57, 3) := by decide +kernel
theorem dX9_seekMinute_27 : decode cX9_seekMinute 27 = .ok (.aload_n 0, 1) := by decide +kernel
theorem dX9_seekMinute_28 : decode cX9_seekMinute 28 = .ok (.iconst 0, 1) := by decide +kernel
theorem dX9_seekMinute_29 : decode cX9_seekMinute 29 = .ok (.putfield 85, 3) := by decide +kernel
theorem dX9_seekMinute_32 : decode cX9_seekMinute 32 = .ok (.aload_n 0, 1) := by decide +kernel
theorem dX9_seekMinute_33 : decode cX9_seekMinute 33 = .ok (.iconst (-1), 1) := by decide +kernel
theorem dX9_seekMinute_34 : decode cX9_seekMinute 34 = .ok (.putfield 88, 3) := by decide +kernel
theorem dX9_seekMinute_37 : decode cX9_seekMinute 37 = .ok (.iconst 0, 1) := by decide +kernel
theorem dX9_seekMinute_38 : decode cX9_seekMinute 38 = .ok (.istore_n 3, 1) := by decide +kernel
theorem dX9_seekMinute_39 : decode cX9_seekMinute 39 = .ok (.iload_n 3, 1) := by decide +kernel
theorem dX9_seekMinute_40 : decode cX9_seekMinute 40 = .ok (.sipush 1000, 3) := by decide +kernel
theorem dX9_seekMinute_43 : decode cX9_seekMinute 43 = .ok (.if_icmp .ge 79, 3) := by decide +kernel
theorem dX9_seekMinute_46 : decode cX9_seekMinute 46 = .ok (.aload_n 0, 1) := by decide +kernel
theorem dX9_seekMinute_47 : decode cX9_seekMinute 47 = .ok (.getfield 26, 3) := by decide +kernel
theorem dX9_seekMinute_50 : decode cX9_seekMinute 50 = .ok (.getfield 34, 3) := by decide +kernel
theorem dX9_seekMinute_53 : decode cX9_seekMinute 53 = .ok (.bipush 11, 2) := by decide +kernel
theorem dX9_seekMinute_55 : decode cX9_seekMinute 55 = .ok (.aaload, 1) := by decide +kernel
theorem dX9_seekMinute_56 : decode cX9_seekMinute 56 = .ok (.bipush 12, 2) := by decide +kernel
theorem dX9_seekMinute_58 : decode cX9_seekMinute 58 = .ok (.iload_n 3, 1) := by decide +kernel
theorem dX9_seekMinute_59 : decode cX9_seekMinute 59 = .ok (.iastore, 1) := by decide +kernel
theorem dX9_seekMinute_60 : decode cX9_seekMinute 60 = .ok (.iconst 0, 1) := by decide +kernel
theorem dX9_seekMinute_61 : decode cX9_seekMinute 61 = .ok (.istore 4, 2) := by decide +kernel
theorem dX9_seekMinute_63 : decode cX9_seekMinute 63 = .ok (.iconst 0, 1) := by decide +kernel
theorem dX9_seekMinute_64 : decode cX9_seekMinute 64 = .ok (.istore 5, 2) := by decide +kernel
theorem dX9_seekMinute_66 : decode cX9_seekMinute 66 = .ok (.iload 5, 2) := by decide +kernel
theorem dX9_seekMinute_68 : decode cX9_seekMinute 68 = .ok (.aload_n 0, 1) := by decide +kernel
theorem dX9_seekMinute_69 : decode cX9_seekMinute 69 = .ok (.getfield 26, 3) := by decide +kernel
theorem dX9_seekMinute_72 : decode cX9_seekMinute 72 = .ok (.getfield 91, 3) := by decide +kernel
theorem dX9_seekMinute_75 : decode cX9_seekMinute 75 = .ok (.if_icmp .ge 21, 3) := by decide +kernel
theorem dX9_seekMinute_78 : decode cX9_seekMinute 78 = .ok (.iload 4, 2) := by decide +kernel
theorem dX9_seekMinute_80 : decode cX9_seekMinute 80 = .ok (.aload_n 0, 1) := by decide +kernel
theorem dX9_seekMinute_81 : decode cX9_seekMinute 81 = .ok (.iload 5, 2) := by decide +kernel
theorem dX9_seekMinute_83 : decode cX9_seekMinute 83 = .ok (.iload_n 2, 1) := by decide +kernel
theorem dX9_seekMinute_84 : decode cX9_seekMinute 84 = .ok (.invokevirtual 94, 3) := by decide +kernel
theorem dX9_seekMinute_87 : decode cX9_seekMinute 87 = .ok (.iadd, 1) := by decide +kernel
theorem dX9_seekMinute_88 : decode cX9_seekMinute 88 = .ok (.istore 4, 2) := by decide +kernel
theorem dX9_seekMinute_90 : decode cX9_seekMinute 90 = .ok (.iinc 5 1, 3) := by decide +kernel
theorem dX9_seekMinute_93 : decode cX9_seekMinute 93 = .ok (.goto (-27), 3) := by decide +kernel
theorem dX9_seekMinute_96 : decode cX9_seekMinute 96 = .ok (.iload 4, 2) := by decide +kernel
theorem dX9_seekMinute_98 : decode cX9_seekMinute 98 = .ok (.aload_n 0, 1) := by decide +kernel
theorem dX9_seekMinute_99 : decode cX9_seekMinute 99 = .ok (.getfield 88, 3) := by decide +kernel
theorem dX9_seekMinute_102 : decode cX9_seekMinute 102 = .ok (.if_icmp .le 14, 3) := by decide +kernel
theorem dX9_seekMinute_105 : decode cX9_seekMinute 105 = .ok (.aload_n 0, 1) := by decide +kernel
theorem dX9_seekMinute_106 : decode cX9_seekMinute 106 = .ok (.iload_n 3, 1) := by decide +kernel
theorem dX9_seekMinute_107 : decode cX9_seekMinute 107 = .ok (.putfield 85, 3) := by decide +kernel
theorem dX9_seekMinute_110 : decode cX9_seekMinute 110 = .ok (.aload_n 0, 1) := by decide +kernel
theorem dX9_seekMinute_111 : decode cX9_seekMinute 111 = .ok (.iload 4, 2) := by decide +kernel
theorem dX9_seekMinute_113 : decode cX9_seekMinute 113 = .ok (.putfield 88, 3) := by decide +kernel
theorem dX9_seekMinute_116 : decode cX9_seekMinute 116 = .ok (.iinc 3 1, 3) := by decide +kernel
theorem dX9_seekMinute_119 : decode cX9_seekMinute 119 = .ok (.goto (-80), 3) := by decide +kernel
theorem dX9_seekMinute_122 : decode cX9_seekMinute 122 = .ok (.return_, 1) := by decide +kernel
theorem ok_yX9_seekMinute : yOk yX9_seekMinute 1 := ⟨by decide +kernel, by decide +kernel, by decide +kernel⟩
def fX9_seekMinute_66 (kB39 : St → Int32 → Int32 → Option (St)) (n : Nat) : Nat → St → Int32 → Int32 → Int32 → Int32 → Option (St)
  | 0, _, _, _, _, _ => none
  | k + 1, st, v2, v3, v4, v5 => if gI st 1 2 ≤ v5 then (if v4 ≤ gI st 27 1 then (bnd (v3 + (1 : Int32)) (fun x17 => kB39 st v2 x17)) else (bnd (sI st 27 0 v3) (fun st19 => bnd (sI st19 27 1 v4) (fun st21 => bnd (v3 + (1 : Int32)) (fun x23 => kB39 st21 v2 x23))))) else ((fX9_earnedBy n st v5 v2).bind (fun r25 => bnd (v4 + r25.1) (fun x27 => bnd (v5 + (1 : Int32)) (fun x29 => fX9_seekMinute_66 kB39 n k r25.2 v2 v3 x27 x29))))
set_option maxHeartbeats 4000000 in
theorem tX9_seekMinute_66 {p : Program} {l : Launch} {e : Env} {s : State} {m : MethodId} {args : Array Value} {below : List Frame} {meth : Method} {c : Code} {X : WX} (C : Amb 65 X p s m args meth c cX9_seekMinute 6 RX9) (hr : meth.sig.returnType = none) {R : St} {n : Nat} {kB39 : St → Int32 → Int32 → Option (St)} (hB39 : ∀ (st : St) (v2 : Int32) (v3 : Int32) (H : Heap) (locs : List Loc) (ls : Array Slot), Wd EC 65 X s.heap st H locs → lv_has ls 6 [(0, .ref (xq X 27)), (2, .int v2), (3, .int v3)] → kB39 st v2 v3 = some R → W p l e { frames := 5, cells := 0, slots := 0, locals := 126 } s m args below meth c H locs 0 0 (QV EC 65 X R below args s) (F0 m 39 ls [])) : ∀ (k : Nat) (st : St) (v2 : Int32) (v3 : Int32) (v4 : Int32) (v5 : Int32) (H : Heap) (locs : List Loc) (ls : Array Slot), Wd EC 65 X s.heap st H locs → lv_has ls 6 [(0, .ref (xq X 27)), (2, .int v2), (3, .int v3), (4, .int v4), (5, .int v5)] → fX9_seekMinute_66 kB39 n k st v2 v3 v4 v5 = some R → W p l e { frames := 5, cells := 0, slots := 0, locals := 126 } s m args below meth c H locs 0 0 (QV EC 65 X R below args s) (F0 m 66 ls []) := by
  obtain ⟨hx, hb, hml, hown, hts⟩ := id C.1
  intro k
  induction k with
  | zero => intro st v2 v3 v4 v5 H locs ls  hw hl hf; exact absurd (show none = some R from hf) (fun z => by cases z)
  | succ k ih =>
    intro st v2 v3 v4 v5 H locs ls  hw hl hf
    rw [fX9_seekMinute_66] at hf
    refine lv_iload hx hb dX9_seekMinute_66 (lv_at hl 4 rfl) ?_
    refine lv_aload_n hx hb dX9_seekMinute_68 rfl (lv_at hl 0 rfl) ?_
    refine w_get (T := TX9) C hw (by decide) 2 kf_X9_26 (EC_27 X _ _) rfl inA9 (by decide) rfl dX9_seekMinute_69 ?_
    refine w_get (T := TX3) C hw (by decide) 2 kf_X9_91 (EC_1 X _ _) rfl inA3 (by decide) rfl dX9_seekMinute_72 ?_
    refine lv_icmp_ge (tgt := 96) hx hb dX9_seekMinute_75 (by decide) (fun c15 => ?_) (fun c15 => ?_)
    · replace hf := ite_t hf c15
      refine lv_iload hx hb dX9_seekMinute_96 (lv_at hl 3 rfl) ?_
      refine lv_aload_n hx hb dX9_seekMinute_98 rfl (lv_at hl 0 rfl) ?_
      refine w_get (T := TX9) C hw (by decide) 1 kf_X9_88 (EC_27 X _ _) rfl inA9 (by decide) rfl dX9_seekMinute_99 ?_
      refine lv_icmp_le (tgt := 116) hx hb dX9_seekMinute_102 (by decide) (fun c16 => ?_) (fun c16 => ?_)
      · replace hf := ite_t hf c16
        obtain ⟨x17, e18⟩ : ∃ z : Int32, z = v3 + (1 : Int32) := ⟨_, rfl⟩
        replace hf := bnd_nm hf e18
        refine lv_iinc (v := x17) (lv' := [(3, .int x17), (0, .ref (xq X 27)), (2, .int v2), (4, .int v4), (5, .int v5)]) hx hb dX9_seekMinute_116 hl (k := 2) rfl (by rw [e18]; rfl) (by decide) rfl (fun ls hl => ?_)
        refine lv_goto (tgt := 39) hx hb dX9_seekMinute_119 (by decide) ?_
        exact hB39 st v2 x17 _ _ _ hw (lv_sub hl [1, 2, 0] rfl) hf
      · replace hf := ite_f hf c16
        refine lv_aload_n hx hb dX9_seekMinute_105 rfl (lv_at hl 0 rfl) ?_
        refine lv_iload_n hx hb dX9_seekMinute_106 rfl (lv_at hl 2 rfl) ?_
        obtain ⟨st19, es20⟩ : ∃ z : St, z = sI st 27 0 v3 := ⟨_, rfl⟩
        replace hf := bnd_nm hf es20
        refine w_puti (T := TX9) C hw (by decide) 0 kf_X9_85 (EC_27 X _ _) rfl inA9 tyX9_ok nmX9 (by decide) rfl rfl (Nat.le_of_ble_eq_true rfl) rfl dX9_seekMinute_107 (fun H locs hw => ?_)
        rw [← es20] at hw
        refine lv_aload_n hx hb dX9_seekMinute_110 rfl (lv_at hl 0 rfl) ?_
        refine lv_iload hx hb dX9_seekMinute_111 (lv_at hl 3 rfl) ?_
        obtain ⟨st21, es22⟩ : ∃ z : St, z = sI st19 27 1 v4 := ⟨_, rfl⟩
        replace hf := bnd_nm hf es22
        refine w_puti (T := TX9) C hw (by decide) 1 kf_X9_88 (EC_27 X _ _) rfl inA9 tyX9_ok nmX9 (by decide) rfl rfl (Nat.le_of_ble_eq_true rfl) rfl dX9_seekMinute_113 (fun H locs hw => ?_)
        rw [← es22] at hw
        obtain ⟨x23, e24⟩ : ∃ z : Int32, z = v3 + (1 : Int32) := ⟨_, rfl⟩
        replace hf := bnd_nm hf e24
        refine lv_iinc (v := x23) (lv' := [(3, .int x23), (0, .ref (xq X 27)), (2, .int v2), (4, .int v4), (5, .int v5)]) hx hb dX9_seekMinute_116 hl (k := 2) rfl (by rw [e24]; rfl) (by decide) rfl (fun ls hl => ?_)
        refine lv_goto (tgt := 39) hx hb dX9_seekMinute_119 (by decide) ?_
        exact hB39 st21 v2 x23 _ _ _ hw (lv_sub hl [1, 2, 0] rfl) hf
    · replace hf := ite_f hf c15
      refine lv_iload hx hb dX9_seekMinute_78 (lv_at hl 3 rfl) ?_
      refine lv_aload_n hx hb dX9_seekMinute_80 rfl (lv_at hl 0 rfl) ?_
      refine lv_iload hx hb dX9_seekMinute_81 (lv_at hl 4 rfl) ?_
      refine lv_iload_n hx hb dX9_seekMinute_83 rfl (lv_at hl 1 rfl) ?_
      obtain ⟨r25, k26, hf⟩ := bd_some hf
      refine w_goI hw (w_runV (rest := [.int v4]) C hw (zX9_earnedBy _ _ n st v5 v2 r25 k26) (by decide) (EC_27 X _ _) rfl km_X9_94 ki_yX9_earnedBy kv_X9_earnedBy kz_X9 kc_X9_earnedBy rfl ok_yX9_earnedBy ⟨Nat.le_of_ble_eq_true rfl, Nat.le_of_ble_eq_true rfl⟩ rfl rfl rfl rfl hl.1 (Nat.le_of_ble_eq_true rfl) dX9_seekMinute_84 ⟨Nat.zero_le _, Nat.zero_le _⟩) (fun H locs hw => ?_)
      refine lv_iadd hx hb dX9_seekMinute_87 ?_
      refine lv_topi (fun x27 e28 => ?_)
      replace hf := bnd_nm hf e28
      refine lv_istore (lv' := [(4, .int x27), (0, .ref (xq X 27)), (2, .int v2), (3, .int v3), (5, .int v5)]) hx hb dX9_seekMinute_88 hl (by decide) rfl (fun ls hl => ?_)
      obtain ⟨x29, e30⟩ : ∃ z : Int32, z = v5 + (1 : Int32) := ⟨_, rfl⟩
      replace hf := bnd_nm hf e30
      refine lv_iinc (v := x29) (lv' := [(5, .int x29), (4, .int x27), (0, .ref (xq X 27)), (2, .int v2), (3, .int v3)]) hx hb dX9_seekMinute_90 hl (k := 4) rfl (by rw [e30]; rfl) (by decide) rfl (fun ls hl => ?_)
      refine lv_goto (tgt := 66) hx hb dX9_seekMinute_93 (by decide) ?_
      exact ih r25.2 v2 v3 x27 x29 _ _ _ hw (lv_sub hl [2, 3, 4, 1, 0] rfl) hf
def fX9_seekMinute_39 (n : Nat) : Nat → St → Int32 → Int32 → Option (St)
  | 0, _, _, _ => none
  | k + 1, st, v2, v3 => if (1000 : Int32) ≤ v3 then (some st) else (bnd (sI st 14 12 v3) (fun st13 => fX9_seekMinute_66 (fX9_seekMinute_39 n k) n n st13 v2 v3 (0 : Int32) (0 : Int32)))
set_option maxHeartbeats 4000000 in
theorem tX9_seekMinute_39 {p : Program} {l : Launch} {e : Env} {s : State} {m : MethodId} {args : Array Value} {below : List Frame} {meth : Method} {c : Code} {X : WX} (C : Amb 65 X p s m args meth c cX9_seekMinute 6 RX9) (hr : meth.sig.returnType = none) {R : St} {n : Nat} : ∀ (k : Nat) (st : St) (v2 : Int32) (v3 : Int32) (H : Heap) (locs : List Loc) (ls : Array Slot), Wd EC 65 X s.heap st H locs → lv_has ls 6 [(0, .ref (xq X 27)), (2, .int v2), (3, .int v3)] → fX9_seekMinute_39 n k st v2 v3 = some R → W p l e { frames := 5, cells := 0, slots := 0, locals := 126 } s m args below meth c H locs 0 0 (QV EC 65 X R below args s) (F0 m 39 ls []) := by
  obtain ⟨hx, hb, hml, hown, hts⟩ := id C.1
  intro k
  induction k with
  | zero => intro st v2 v3 H locs ls  hw hl hf; exact absurd (show none = some R from hf) (fun z => by cases z)
  | succ k ih =>
    intro st v2 v3 H locs ls  hw hl hf
    rw [fX9_seekMinute_39] at hf
    refine lv_iload_n hx hb dX9_seekMinute_39 rfl (lv_at hl 2 rfl) ?_
    refine lv_sipush (v := 1000) hx hb dX9_seekMinute_40 (by decide) ?_
    refine lv_icmp_ge (tgt := 122) hx hb dX9_seekMinute_43 (by decide) (fun c12 => ?_) (fun c12 => ?_)
    · replace hf := ite_t hf c12
      exact w_vret C hw hr (Option.some.inj hf) dX9_seekMinute_122
    · replace hf := ite_f hf c12
      refine lv_aload_n hx hb dX9_seekMinute_46 rfl (lv_at hl 0 rfl) ?_
      refine w_get (T := TX9) C hw (by decide) 2 kf_X9_26 (EC_27 X _ _) rfl inA9 (by decide) rfl dX9_seekMinute_47 ?_
      refine w_get (T := TX3) C hw (by decide) 0 kf_X9_34 (EC_1 X _ _) rfl inA3 (by decide) rfl dX9_seekMinute_50 ?_
      refine lv_bipush (v := 11) hx hb dX9_seekMinute_53 (by decide) ?_
      refine w_aald (k' := 14) C hw (by decide) (EC_2 X _ _) rfl rfl (by decide) rfl dX9_seekMinute_55 ?_
      refine lv_bipush (v := 12) hx hb dX9_seekMinute_56 (by decide) ?_
      refine lv_iload_n hx hb dX9_seekMinute_58 rfl (lv_at hl 2 rfl) ?_
      obtain ⟨st13, es14⟩ : ∃ z : St, z = sI st 14 12 v3 := ⟨_, rfl⟩
      replace hf := bnd_nm hf es14
      refine w_iast C hw (by decide) (fun f9 => EC_14 X f9 _) (by decide) (show (12 : Int32).toNatClampNeg = 12 by decide) dX9_seekMinute_59 (fun H locs hw => ?_)
      rw [← es14] at hw
      refine lv_iconst (v := 0) hx hb dX9_seekMinute_60 (by decide) ?_
      refine lv_istore (lv' := [(4, .int (0 : Int32)), (0, .ref (xq X 27)), (2, .int v2), (3, .int v3)]) hx hb dX9_seekMinute_61 hl (by decide) rfl (fun ls hl => ?_)
      refine lv_iconst (v := 0) hx hb dX9_seekMinute_63 (by decide) ?_
      refine lv_istore (lv' := [(5, .int (0 : Int32)), (4, .int (0 : Int32)), (0, .ref (xq X 27)), (2, .int v2), (3, .int v3)]) hx hb dX9_seekMinute_64 hl (by decide) rfl (fun ls hl => ?_)
      exact tX9_seekMinute_66 C hr ih n st13 v2 v3 (0 : Int32) (0 : Int32) _ _ _ hw (lv_sub hl [2, 3, 4, 1, 0] rfl) hf
def fX9_seekMinute (n : Nat) (st : St) (a1 : Int32) : Option (St) := gd (inB a1 13) (bnd (gI st 13 a1.toNatClampNeg) (fun x2 => (fX9_weighOthers n st a1 x2).bind (fun r4 => (fX3_thinkOf r4 a1).bind (fun r6 => bnd (sI r6 27 0 (0 : Int32)) (fun st8 => bnd (sI st8 27 1 (-1 : Int32)) (fun st10 => fX9_seekMinute_39 n n st10 x2 (0 : Int32)))))))
set_option maxHeartbeats 4000000 in
theorem zX9_seekMinute (l : Launch) (X : WX) (n : Nat) (st : St) (a1 : Int32) (R : St) (hf : fX9_seekMinute n st a1 = some R) : CtV l yX9_seekMinute cX9_seekMinute 6 ({ frames := 5, cells := 0, slots := 0, locals := 126 }) EC 65 X [.ref (xq X 27), .int a1] st R := by
  refine ct_in (own := RX9) (by decide +kernel) rfl (Nat.le_of_ble_eq_true rfl) (fun p e s m below meth c C hr hw ls hl => ?_)
  obtain ⟨hx, hb, hml, hown, hts⟩ := id C.1
  have hl : lv_has ls 6 [(0, .ref (xq X 27)), (1, .int a1)] := hl
  unfold fX9_seekMinute at hf
  refine lv_aload_n hx hb dX9_seekMinute_0 rfl (lv_at hl 0 rfl) ?_
  refine w_get (T := TX9) C hw (by decide) 2 kf_X9_26 (EC_27 X _ _) rfl inA9 (by decide) rfl dX9_seekMinute_1 ?_
  refine w_get (T := TX3) C hw (by decide) 0 kf_X9_34 (EC_1 X _ _) rfl inA3 (by decide) rfl dX9_seekMinute_4 ?_
  refine lv_bipush (v := 10) hx hb dX9_seekMinute_7 (by decide) ?_
  refine w_aald (k' := 13) C hw (by decide) (EC_2 X _ _) rfl rfl (by decide) rfl dX9_seekMinute_9 ?_
  refine lv_iload_n hx hb dX9_seekMinute_10 rfl (lv_at hl 1 rfl) ?_
  obtain ⟨h1, hf⟩ := gd_some hf
  refine w_iald C hw (by decide) (EC_13 X _ _) h1 rfl dX9_seekMinute_11 ?_
  refine lv_topi (fun x2 e3 => ?_)
  replace hf := bnd_nm hf e3
  refine lv_istore_n (lv' := [(2, .int x2), (0, .ref (xq X 27)), (1, .int a1)]) hx hb dX9_seekMinute_12 rfl hl (by decide) rfl (fun ls hl => ?_)
  refine lv_aload_n hx hb dX9_seekMinute_13 rfl (lv_at hl 1 rfl) ?_
  refine lv_iload_n hx hb dX9_seekMinute_14 rfl (lv_at hl 2 rfl) ?_
  refine lv_iload_n hx hb dX9_seekMinute_15 rfl (lv_at hl 0 rfl) ?_
  obtain ⟨r4, k5, hf⟩ := bd_some hf
  refine w_goV hw (w_runV (rest := []) C hw (zX9_weighOthers _ _ n st a1 x2 r4 k5) (by decide) (EC_27 X _ _) rfl km_X9_81 ki_yX9_weighOthers kv_X9_weighOthers kz_X9 kc_X9_weighOthers rfl ok_yX9_weighOthers ⟨Nat.le_of_ble_eq_true rfl, Nat.le_of_ble_eq_true rfl⟩ rfl rfl rfl rfl hl.1 (Nat.le_of_ble_eq_true rfl) dX9_seekMinute_16 ⟨Nat.zero_le _, Nat.zero_le _⟩) (fun H locs hw => ?_)
  refine lv_aload_n hx hb dX9_seekMinute_19 rfl (lv_at hl 1 rfl) ?_
  refine w_get (T := TX9) C hw (by decide) 2 kf_X9_26 (EC_27 X _ _) rfl inA9 (by decide) rfl dX9_seekMinute_20 ?_
  refine lv_iload_n hx hb dX9_seekMinute_23 rfl (lv_at hl 2 rfl) ?_
  obtain ⟨r6, k7, hf⟩ := bd_some hf
  refine w_goV hw (w_runV (rest := []) C hw (zX3_thinkOf _ _ r4 a1 r6 k7) (by decide) (EC_1 X _ _) rfl km_X9_57 ki_yX3_thinkOf kv_X3_thinkOf kz_X3 kc_X3_thinkOf rfl ok_yX3_thinkOf ⟨Nat.le_of_ble_eq_true rfl, Nat.le_of_ble_eq_true rfl⟩ rfl rfl rfl rfl hl.1 (Nat.le_of_ble_eq_true rfl) dX9_seekMinute_24 ⟨Nat.zero_le _, Nat.zero_le _⟩) (fun H locs hw => ?_)
  refine lv_aload_n hx hb dX9_seekMinute_27 rfl (lv_at hl 1 rfl) ?_
  refine lv_iconst (v := 0) hx hb dX9_seekMinute_28 (by decide) ?_
  obtain ⟨st8, es9⟩ : ∃ z : St, z = sI r6 27 0 (0 : Int32) := ⟨_, rfl⟩
  replace hf := bnd_nm hf es9
  refine w_puti (T := TX9) C hw (by decide) 0 kf_X9_85 (EC_27 X _ _) rfl inA9 tyX9_ok nmX9 (by decide) rfl rfl (Nat.le_of_ble_eq_true rfl) rfl dX9_seekMinute_29 (fun H locs hw => ?_)
  rw [← es9] at hw
  refine lv_aload_n hx hb dX9_seekMinute_32 rfl (lv_at hl 1 rfl) ?_
  refine lv_iconst (v := -1) hx hb dX9_seekMinute_33 (by decide) ?_
  obtain ⟨st10, es11⟩ : ∃ z : St, z = sI st8 27 1 (-1 : Int32) := ⟨_, rfl⟩
  replace hf := bnd_nm hf es11
  refine w_puti (T := TX9) C hw (by decide) 1 kf_X9_88 (EC_27 X _ _) rfl inA9 tyX9_ok nmX9 (by decide) rfl rfl (Nat.le_of_ble_eq_true rfl) rfl dX9_seekMinute_34 (fun H locs hw => ?_)
  rw [← es11] at hw
  refine lv_iconst (v := 0) hx hb dX9_seekMinute_37 (by decide) ?_
  refine lv_istore_n (lv' := [(3, .int (0 : Int32)), (2, .int x2), (0, .ref (xq X 27)), (1, .int a1)]) hx hb dX9_seekMinute_38 rfl hl (by decide) rfl (fun ls hl => ?_)
  exact tX9_seekMinute_39 C hr n st10 x2 (0 : Int32) _ _ _ hw (lv_sub hl [2, 1, 0] rfl) hf
theorem dX9_fieldsThatBurden_0 : decode cX9_fieldsThatBurden 0 = .ok (.iconst 0, 1) := by decide +kernel
theorem dX9_fieldsThatBurden_1 : decode cX9_fieldsThatBurden 1 = .ok (.istore_n 2, 1) := by decide +kernel
theorem dX9_fieldsThatBurden_2 : decode cX9_fieldsThatBurden 2 = .ok (.iconst 0, 1) := by decide +kernel
theorem dX9_fieldsThatBurden_3 : decode cX9_fieldsThatBurden 3 = .ok (.istore_n 3, 1) := by decide +kernel
theorem dX9_fieldsThatBurden_4 : decode cX9_fieldsThatBurden 4 = .ok (.iload_n 3, 1) := by decide +kernel
theorem dX9_fieldsThatBurden_5 : decode cX9_fieldsThatBurden 5 = .ok (.aload_n 0, 1) := by decide +kernel
theorem dX9_fieldsThatBurden_6 : decode cX9_fieldsThatBurden 6 = .ok (.getfield 26, 3) := by decide +kernel
theorem dX9_fieldsThatBurden_9 : decode cX9_fieldsThatBurden 9 = .ok (.getfield 91, 3) := by decide +kernel
theorem dX9_fieldsThatBurden_12 : decode cX9_fieldsThatBurden 12 = .ok (.if_icmp .ge 57, 3) := by decide +kernel
theorem dX9_fieldsThatBurden_15 : decode cX9_fieldsThatBurden 15 = .ok (.aload_n 0, 1) := by decide +kernel
theorem dX9_fieldsThatBurden_16 : decode cX9_fieldsThatBurden 16 = .ok (.getfield 26, 3) := by decide +kernel
theorem dX9_fieldsThatBurden_19 : decode cX9_fieldsThatBurden 19 = .ok (.iload_n 3, 1) := by decide +kernel
theorem dX9_fieldsThatBurden_20 : decode cX9_fieldsThatBurden 20 = .ok (.invokevirtual 50, 3) := by decide +kernel
theorem dX9_fieldsThatBurden_23 : decode cX9_fieldsThatBurden 23 = .ok (.istore 4, 2) := by decide +kernel
theorem dX9_fieldsThatBurden_25 : decode cX9_fieldsThatBurden 25 = .ok (.aload_n 0, 1) := by decide +kernel
theorem dX9_fieldsThatBurden_26 : decode cX9_fieldsThatBurden 26 = .ok (.getfield 26, 3) := by decide +kernel
theorem dX9_fieldsThatBurden_29 : decode cX9_fieldsThatBurden 29 = .ok (.iload 4, 2) := by decide +kernel
theorem dX9_fieldsThatBurden_31 : decode cX9_fieldsThatBurden 31 = .ok (.invokevirtual 38, 3) := by decide +kernel
theorem dX9_fieldsThatBurden_34 : decode cX9_fieldsThatBurden 34 = .ok (.iload_n 1, 1) := by decide +kernel
theorem dX9_fieldsThatBurden_35 : decode cX9_fieldsThatBurden 35 = .ok (.if_icmp .ne 28, 3) := by decide +kernel
theorem dX9_fieldsThatBurden_38 : decode cX9_fieldsThatBurden 38 = .ok (.aload_n 0, 1) := by decide +kernel
theorem dX9_fieldsThatBurden_39 : decode cX9_fieldsThatBurden 39 = .ok (.getfield 30, 3) := by decide +kernel
theorem dX9_fieldsThatBurden_42 : decode cX9_fieldsThatBurden 42 = .ok (.iload_n 3, 1) := by decide +kernel
theorem dX9_fieldsThatBurden_43 : decode cX9_fieldsThatBurden 43 = .ok (.aload_n 0, 1) := by decide +kernel
theorem dX9_fieldsThatBurden_44 : decode cX9_fieldsThatBurden 44 = .ok (.getfield 30, 3) := by decide +kernel
theorem dX9_fieldsThatBurden_47 : decode cX9_fieldsThatBurden 47 = .ok (.getfield 102, 3) := by decide +kernel
theorem dX9_fieldsThatBurden_50 : decode cX9_fieldsThatBurden 50 = .ok (.invokevirtual 105, 3) := by decide +kernel
theorem dX9_fieldsThatBurden_53 : decode cX9_fieldsThatBurden 53 = .ok (.ifCond .le 10, 3) := by decide +kernel
theorem dX9_fieldsThatBurden_56 : decode cX9_fieldsThatBurden 56 = .ok (.iload_n 2, 1) := by decide +kernel
theorem dX9_fieldsThatBurden_57 : decode cX9_fieldsThatBurden 57 = .ok (.iconst 1, 1) := by decide +kernel
theorem dX9_fieldsThatBurden_58 : decode cX9_fieldsThatBurden 58 = .ok (.iload 4, 2) := by decide +kernel
theorem dX9_fieldsThatBurden_60 : decode cX9_fieldsThatBurden 60 = .ok (.ishl, 1) := by decide +kernel
theorem dX9_fieldsThatBurden_61 : decode cX9_fieldsThatBurden 61 = .ok (.ior, 1) := by decide +kernel
theorem dX9_fieldsThatBurden_62 : decode cX9_fieldsThatBurden 62 = .ok (.istore_n 2, 1) := by decide +kernel
theorem dX9_fieldsThatBurden_63 : decode cX9_fieldsThatBurden 63 = .ok (.iinc 3 1, 3) := by decide +kernel
theorem dX9_fieldsThatBurden_66 : decode cX9_fieldsThatBurden 66 = .ok (.goto (-62), 3) := by decide +kernel
theorem dX9_fieldsThatBurden_69 : decode cX9_fieldsThatBurden 69 = .ok (.iload_n 2, 1) := by decide +kernel
theorem dX9_fieldsThatBurden_70 : decode cX9_fieldsThatBurden 70 = .ok (.ireturn, 1) := by decide +kernel
theorem ok_yX9_fieldsThatBurden : yOk yX9_fieldsThatBurden 1 := ⟨by decide +kernel, by decide +kernel, by decide +kernel⟩
def fX9_fieldsThatBurden_4 (n : Nat) : Nat → St → Int32 → Int32 → Int32 → Option (Int32 × St)
  | 0, _, _, _, _ => none
  | k + 1, st, v1, v2, v3 => if gI st 1 2 ≤ v3 then (some (v2, st)) else ((fX3_fieldUnder n st v3).bind (fun r2 => (fX3_ownerOf st r2).bind (fun r4 => if r4 = v1 then ((fX6_settle_1 n st v3).bind (fun r9 => if r9.1 ≤ 0 then (bnd (v3 + (1 : Int32)) (fun x12 => fX9_fieldsThatBurden_4 n k r9.2 v1 v2 x12)) else (bnd (v2 ||| ((1 : Int32) <<< (r2 &&& 31))) (fun x14 => bnd (v3 + (1 : Int32)) (fun x16 => fX9_fieldsThatBurden_4 n k r9.2 v1 x14 x16))))) else (bnd (v3 + (1 : Int32)) (fun x7 => fX9_fieldsThatBurden_4 n k st v1 v2 x7)))))
set_option maxHeartbeats 4000000 in
theorem tX9_fieldsThatBurden_4 {p : Program} {l : Launch} {e : Env} {s : State} {m : MethodId} {args : Array Value} {below : List Frame} {meth : Method} {c : Code} {X : WX} (C : Amb 65 X p s m args meth c cX9_fieldsThatBurden 5 RX9) (hr : meth.sig.returnType = some .int) {R : Int32 × St} {n : Nat} : ∀ (k : Nat) (st : St) (v1 : Int32) (v2 : Int32) (v3 : Int32) (H : Heap) (locs : List Loc) (ls : Array Slot), Wd EC 65 X s.heap st H locs → lv_has ls 5 [(0, .ref (xq X 27)), (1, .int v1), (2, .int v2), (3, .int v3)] → fX9_fieldsThatBurden_4 n k st v1 v2 v3 = some R → W p l e { frames := 5, cells := 0, slots := 0, locals := 130 } s m args below meth c H locs 0 0 (QI EC 65 X R.1 R.2 below args s) (F0 m 4 ls []) := by
  obtain ⟨hx, hb, hml, hown, hts⟩ := id C.1
  intro k
  induction k with
  | zero => intro st v1 v2 v3 H locs ls  hw hl hf; exact absurd (show none = some R from hf) (fun z => by cases z)
  | succ k ih =>
    intro st v1 v2 v3 H locs ls  hw hl hf
    rw [fX9_fieldsThatBurden_4] at hf
    refine lv_iload_n hx hb dX9_fieldsThatBurden_4 rfl (lv_at hl 3 rfl) ?_
    refine lv_aload_n hx hb dX9_fieldsThatBurden_5 rfl (lv_at hl 0 rfl) ?_
    refine w_get (T := TX9) C hw (by decide) 2 kf_X9_26 (EC_27 X _ _) rfl inA9 (by decide) rfl dX9_fieldsThatBurden_6 ?_
    refine w_get (T := TX3) C hw (by decide) 2 kf_X9_91 (EC_1 X _ _) rfl inA3 (by decide) rfl dX9_fieldsThatBurden_9 ?_
    refine lv_icmp_ge (tgt := 69) hx hb dX9_fieldsThatBurden_12 (by decide) (fun c1 => ?_) (fun c1 => ?_)
    · replace hf := ite_t hf c1
      refine lv_iload_n hx hb dX9_fieldsThatBurden_69 rfl (lv_at hl 2 rfl) ?_
      exact w_iret C hw hr (so2 hf).1 (so2 hf).2 dX9_fieldsThatBurden_70
    · replace hf := ite_f hf c1
      refine lv_aload_n hx hb dX9_fieldsThatBurden_15 rfl (lv_at hl 0 rfl) ?_
      refine w_get (T := TX9) C hw (by decide) 2 kf_X9_26 (EC_27 X _ _) rfl inA9 (by decide) rfl dX9_fieldsThatBurden_16 ?_
      refine lv_iload_n hx hb dX9_fieldsThatBurden_19 rfl (lv_at hl 3 rfl) ?_
      obtain ⟨r2, k3, hf⟩ := bd_some hf
      refine w_goI hw (w_runV (rest := []) C hw (zX3_fieldUnder _ _ n st v3 r2 k3) (by decide) (EC_1 X _ _) rfl km_X9_50 ki_yX3_fieldUnder kv_X3_fieldUnder kz_X3 kc_X3_fieldUnder rfl ok_yX3_fieldUnder ⟨Nat.le_of_ble_eq_true rfl, Nat.le_of_ble_eq_true rfl⟩ rfl rfl rfl rfl hl.1 (Nat.le_of_ble_eq_true rfl) dX9_fieldsThatBurden_20 ⟨Nat.zero_le _, Nat.zero_le _⟩) (fun H locs hw => ?_)
      refine lv_istore (lv' := [(4, .int r2), (0, .ref (xq X 27)), (1, .int v1), (2, .int v2), (3, .int v3)]) hx hb dX9_fieldsThatBurden_23 hl (by decide) rfl (fun ls hl => ?_)
      refine lv_aload_n hx hb dX9_fieldsThatBurden_25 rfl (lv_at hl 1 rfl) ?_
      refine w_get (T := TX9) C hw (by decide) 2 kf_X9_26 (EC_27 X _ _) rfl inA9 (by decide) rfl dX9_fieldsThatBurden_26 ?_
      refine lv_iload hx hb dX9_fieldsThatBurden_29 (lv_at hl 0 rfl) ?_
      obtain ⟨r4, k5, hf⟩ := bd_some hf
      refine w_goI hw (w_runV (rest := []) C hw (zX3_ownerOf _ _ st r2 r4 k5) (by decide) (EC_1 X _ _) rfl km_X9_38 ki_yX3_ownerOf kv_X3_ownerOf kz_X3 kc_X3_ownerOf rfl ok_yX3_ownerOf ⟨Nat.le_of_ble_eq_true rfl, Nat.le_of_ble_eq_true rfl⟩ rfl rfl rfl rfl hl.1 (Nat.le_of_ble_eq_true rfl) dX9_fieldsThatBurden_31 ⟨Nat.zero_le _, Nat.zero_le _⟩) (fun H locs hw => ?_)
      refine lv_iload_n hx hb dX9_fieldsThatBurden_34 rfl (lv_at hl 2 rfl) ?_
      refine lv_icmp_ne (tgt := 63) hx hb dX9_fieldsThatBurden_35 (by decide) (fun c6 => ?_) (fun c6 => ?_)
      · replace hf := ite_f hf c6
        obtain ⟨x7, e8⟩ : ∃ z : Int32, z = v3 + (1 : Int32) := ⟨_, rfl⟩
        replace hf := bnd_nm hf e8
        refine lv_iinc (v := x7) (lv' := [(3, .int x7), (4, .int r2), (0, .ref (xq X 27)), (1, .int v1), (2, .int v2)]) hx hb dX9_fieldsThatBurden_63 hl (k := 4) rfl (by rw [e8]; rfl) (by decide) rfl (fun ls hl => ?_)
        refine lv_goto (tgt := 4) hx hb dX9_fieldsThatBurden_66 (by decide) ?_
        exact ih st v1 v2 x7 _ _ _ hw (lv_sub hl [2, 3, 4, 0] rfl) hf
      · replace hf := ite_t hf c6
        refine lv_aload_n hx hb dX9_fieldsThatBurden_38 rfl (lv_at hl 1 rfl) ?_
        refine w_get (T := TX9) C hw (by decide) 3 kf_X9_30 (EC_27 X _ _) rfl inA9 (by decide) rfl dX9_fieldsThatBurden_39 ?_
        refine lv_iload_n hx hb dX9_fieldsThatBurden_42 rfl (lv_at hl 4 rfl) ?_
        refine lv_aload_n hx hb dX9_fieldsThatBurden_43 rfl (lv_at hl 1 rfl) ?_
        refine w_get (T := TX9) C hw (by decide) 3 kf_X9_30 (EC_27 X _ _) rfl inA9 (by decide) rfl dX9_fieldsThatBurden_44 ?_
        refine w_get (T := TX6) C hw (by decide) 0 kf_X9_102 (EC_24 X _ _) rfl inA6 (by decide) rfl dX9_fieldsThatBurden_47 ?_
        obtain ⟨r9, k10, hf⟩ := bd_some hf
        refine w_goI hw (w_runV (rest := []) C hw (zX6_settle_1 _ _ n st v3 r9 k10) (by decide) (EC_24 X _ _) rfl km_X9_105 ki_yX6_settle kv_X6_settle kz_X6 kc_X6_settle rfl ok_yX6_settle ⟨Nat.le_of_ble_eq_true rfl, Nat.le_of_ble_eq_true rfl⟩ rfl rfl rfl rfl hl.1 (Nat.le_of_ble_eq_true rfl) dX9_fieldsThatBurden_50 ⟨Nat.zero_le _, Nat.zero_le _⟩) (fun H locs hw => ?_)
        refine lv_if_le (tgt := 63) hx hb dX9_fieldsThatBurden_53 (by decide) (fun c11 => ?_) (fun c11 => ?_)
        · replace hf := ite_t hf c11
          obtain ⟨x12, e13⟩ : ∃ z : Int32, z = v3 + (1 : Int32) := ⟨_, rfl⟩
          replace hf := bnd_nm hf e13
          refine lv_iinc (v := x12) (lv' := [(3, .int x12), (4, .int r2), (0, .ref (xq X 27)), (1, .int v1), (2, .int v2)]) hx hb dX9_fieldsThatBurden_63 hl (k := 4) rfl (by rw [e13]; rfl) (by decide) rfl (fun ls hl => ?_)
          refine lv_goto (tgt := 4) hx hb dX9_fieldsThatBurden_66 (by decide) ?_
          exact ih r9.2 v1 v2 x12 _ _ _ hw (lv_sub hl [2, 3, 4, 0] rfl) hf
        · replace hf := ite_f hf c11
          refine lv_iload_n hx hb dX9_fieldsThatBurden_56 rfl (lv_at hl 3 rfl) ?_
          refine lv_iconst (v := 1) hx hb dX9_fieldsThatBurden_57 (by decide) ?_
          refine lv_iload hx hb dX9_fieldsThatBurden_58 (lv_at hl 0 rfl) ?_
          refine lv_ishl hx hb dX9_fieldsThatBurden_60 ?_
          refine lv_ior hx hb dX9_fieldsThatBurden_61 ?_
          refine lv_topi (fun x14 e15 => ?_)
          replace hf := bnd_nm hf e15
          refine lv_istore_n (lv' := [(2, .int x14), (4, .int r2), (0, .ref (xq X 27)), (1, .int v1), (3, .int v3)]) hx hb dX9_fieldsThatBurden_62 rfl hl (by decide) rfl (fun ls hl => ?_)
          obtain ⟨x16, e17⟩ : ∃ z : Int32, z = v3 + (1 : Int32) := ⟨_, rfl⟩
          replace hf := bnd_nm hf e17
          refine lv_iinc (v := x16) (lv' := [(3, .int x16), (2, .int x14), (4, .int r2), (0, .ref (xq X 27)), (1, .int v1)]) hx hb dX9_fieldsThatBurden_63 hl (k := 4) rfl (by rw [e17]; rfl) (by decide) rfl (fun ls hl => ?_)
          refine lv_goto (tgt := 4) hx hb dX9_fieldsThatBurden_66 (by decide) ?_
          exact ih r9.2 v1 x14 x16 _ _ _ hw (lv_sub hl [3, 4, 1, 0] rfl) hf
def fX9_fieldsThatBurden (n : Nat) (st : St) (a1 : Int32) : Option (Int32 × St) := fX9_fieldsThatBurden_4 n n st a1 (0 : Int32) (0 : Int32)
set_option maxHeartbeats 4000000 in
theorem zX9_fieldsThatBurden (l : Launch) (X : WX) (n : Nat) (st : St) (a1 : Int32) (R : Int32 × St) (hf : fX9_fieldsThatBurden n st a1 = some R) : CtI l yX9_fieldsThatBurden cX9_fieldsThatBurden 5 .int ({ frames := 5, cells := 0, slots := 0, locals := 130 }) EC 65 X [.ref (xq X 27), .int a1] st R.1 R.2 := by
  refine ct_in (own := RX9) (by decide +kernel) rfl (Nat.le_of_ble_eq_true rfl) (fun p e s m below meth c C hr hw ls hl => ?_)
  obtain ⟨hx, hb, hml, hown, hts⟩ := id C.1
  have hl : lv_has ls 5 [(0, .ref (xq X 27)), (1, .int a1)] := hl
  unfold fX9_fieldsThatBurden at hf
  refine lv_iconst (v := 0) hx hb dX9_fieldsThatBurden_0 (by decide) ?_
  refine lv_istore_n (lv' := [(2, .int (0 : Int32)), (0, .ref (xq X 27)), (1, .int a1)]) hx hb dX9_fieldsThatBurden_1 rfl hl (by decide) rfl (fun ls hl => ?_)
  refine lv_iconst (v := 0) hx hb dX9_fieldsThatBurden_2 (by decide) ?_
  refine lv_istore_n (lv' := [(3, .int (0 : Int32)), (2, .int (0 : Int32)), (0, .ref (xq X 27)), (1, .int a1)]) hx hb dX9_fieldsThatBurden_3 rfl hl (by decide) rfl (fun ls hl => ?_)
  exact tX9_fieldsThatBurden_4 C hr n st a1 (0 : Int32) (0 : Int32) _ _ _ hw (lv_sub hl [2, 3, 1, 0] rfl) hf
