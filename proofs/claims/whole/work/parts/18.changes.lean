theorem dX1_forgetOldest_0 : decode cX1_forgetOldest 0 = .ok (.aload_n 0, 1) := by decide +kernel
theorem dX1_forgetOldest_1 : decode cX1_forgetOldest 1 = .ok (.dup, 1) := by decide +kernel
theorem dX1_forgetOldest_2 : decode cX1_forgetOldest 2 = .ok (.getfield 22, 3) := by decide +kernel
theorem dX1_forgetOldest_5 : decode cX1_forgetOldest 5 = .ok (.iconst 1, 1) := by decide +kernel
theorem dX1_forgetOldest_6 : decode cX1_forgetOldest 6 = .ok (.isub, 1) := by decide +kernel
theorem dX1_forgetOldest_7 : decode cX1_forgetOldest 7 = .ok (.putfield 22, 3) := by decide +kernel
theorem dX1_forgetOldest_10 : decode cX1_forgetOldest 10 = .ok (.aload_n 0, 1) := by decide +kernel
theorem dX1_forgetOldest_11 : decode cX1_forgetOldest 11 = .ok (.getfield 9, 3) := by decide +kernel
theorem dX1_forgetOldest_14 : decode cX1_forgetOldest 14 = .ok (.iconst 1, 1) := by decide +kernel
theorem dX1_forgetOldest_15 : decode cX1_forgetOldest 15 = .ok (.aload_n 0, 1) := by decide +kernel
theorem dX1_forgetOldest_16 : decode cX1_forgetOldest 16 = .ok (.getfield 9, 3) := by decide +kernel
theorem dX1_forgetOldest_19 : decode cX1_forgetOldest 19 = .ok (.iconst 0, 1) := by decide +kernel
theorem dX1_forgetOldest_20 : decode cX1_forgetOldest 20 = .ok (.aload_n 0, 1) := by decide +kernel
theorem dX1_forgetOldest_21 : decode cX1_forgetOldest 21 = .ok (.getfield 22, 3) := by decide +kernel
theorem dX1_forgetOldest_24 : decode cX1_forgetOldest 24 = .ok (.invokestatic 32, 3) := by decide +kernel
theorem dX1_forgetOldest_27 : decode cX1_forgetOldest 27 = .ok (.aload_n 0, 1) := by decide +kernel
theorem dX1_forgetOldest_28 : decode cX1_forgetOldest 28 = .ok (.getfield 13, 3) := by decide +kernel
theorem dX1_forgetOldest_31 : decode cX1_forgetOldest 31 = .ok (.iconst 1, 1) := by decide +kernel
theorem dX1_forgetOldest_32 : decode cX1_forgetOldest 32 = .ok (.aload_n 0, 1) := by decide +kernel
theorem dX1_forgetOldest_33 : decode cX1_forgetOldest 33 = .ok (.getfield 13, 3) := by decide +kernel
theorem dX1_forgetOldest_36 : decode cX1_forgetOldest 36 = .ok (.iconst 0, 1) := by decide +kernel
theorem dX1_forgetOldest_37 : decode cX1_forgetOldest 37 = .ok (.aload_n 0, 1) := by decide +kernel
theorem dX1_forgetOldest_38 : decode cX1_forgetOldest 38 = .ok (.getfield 22, 3) := by decide +kernel
theorem dX1_forgetOldest_41 : decode cX1_forgetOldest 41 = .ok (.invokestatic 32, 3) := by decide +kernel
theorem dX1_forgetOldest_44 : decode cX1_forgetOldest 44 = .ok (.aload_n 0, 1) := by decide +kernel
theorem dX1_forgetOldest_45 : decode cX1_forgetOldest 45 = .ok (.getfield 16, 3) := by decide +kernel
theorem dX1_forgetOldest_48 : decode cX1_forgetOldest 48 = .ok (.iconst 1, 1) := by decide +kernel
theorem dX1_forgetOldest_49 : decode cX1_forgetOldest 49 = .ok (.aload_n 0, 1) := by decide +kernel
theorem dX1_forgetOldest_50 : decode cX1_forgetOldest 50 = .ok (.getfield 16, 3) := by decide +kernel
theorem dX1_forgetOldest_53 : decode cX1_forgetOldest 53 = .ok (.iconst 0, 1) := by decide +kernel
theorem dX1_forgetOldest_54 : decode cX1_forgetOldest 54 = .ok (.aload_n 0, 1) := by decide +kernel
theorem dX1_forgetOldest_55 : decode cX1_forgetOldest 55 = .ok (.getfield 22, 3) := by decide +kernel
theorem dX1_forgetOldest_58 : decode cX1_forgetOldest 58 = .ok (.invokestatic 32, 3) := by decide +kernel
theorem dX1_forgetOldest_61 : decode cX1_forgetOldest 61 = .ok (.aload_n 0, 1) := by decide +kernel
theorem dX1_forgetOldest_62 : decode cX1_forgetOldest 62 = .ok (.getfield 19, 3) := by decide +kernel
theorem dX1_forgetOldest_65 : decode cX1_forgetOldest 65 = .ok (.iconst 1, 1) := by decide +kernel
theorem dX1_forgetOldest_66 : decode cX1_forgetOldest 66 = .ok (.aload_n 0, 1) := by decide +kernel
theorem dX1_forgetOldest_67 : decode cX1_forgetOldest 67 = .ok (.getfield 19, 3) := by decide +kernel
theorem dX1_forgetOldest_70 : decode cX1_forgetOldest 70 = .ok (.iconst 0, 1) := by decide +kernel
theorem dX1_forgetOldest_71 : decode cX1_forgetOldest 71 = .ok (.aload_n 0, 1) := by decide +kernel
theorem dX1_forgetOldest_72 : decode cX1_forgetOldest 72 = .ok (.getfield 22, 3) := by decide +kernel
theorem dX1_forgetOldest_75 : decode cX1_forgetOldest 75 = .ok (.invokestatic 32, 3) := by decide +kernel
theorem dX1_forgetOldest_78 : decode cX1_forgetOldest 78 = .ok (.return_, 1) := by decide +kernel
theorem ok_yX1_forgetOldest : yOk yX1_forgetOldest 0 := ⟨by decide +kernel, by decide +kernel, by decide +kernel⟩
def fX1_forgetOldest (st : St) : Option (St) := bnd (sI st 44 0 ((gI st 44 0) - (1 : Int32))) (fun st1 => gd (cpB (1 : Int32) (0 : Int32) (gI st1 44 0) 40 40) (bnd (sIs st1 45 (va_cpy (gI st1 45) (gI st1 45) (1 : Int32).toNatClampNeg (0 : Int32).toNatClampNeg (gI st1 44 0).toNatClampNeg)) (fun st4 => gd (cpB (1 : Int32) (0 : Int32) (gI st4 44 0) 40 40) (bnd (sIs st4 46 (va_cpy (gI st4 46) (gI st4 46) (1 : Int32).toNatClampNeg (0 : Int32).toNatClampNeg (gI st4 44 0).toNatClampNeg)) (fun st7 => gd (cpB (1 : Int32) (0 : Int32) (gI st7 44 0) 40 40) (bnd (sIs st7 47 (va_cpy (gI st7 47) (gI st7 47) (1 : Int32).toNatClampNeg (0 : Int32).toNatClampNeg (gI st7 44 0).toNatClampNeg)) (fun st10 => gd (cpB (1 : Int32) (0 : Int32) (gI st10 44 0) 40 40) (bnd (sIs st10 48 (va_cpy (gI st10 48) (gI st10 48) (1 : Int32).toNatClampNeg (0 : Int32).toNatClampNeg (gI st10 44 0).toNatClampNeg)) (fun st13 => some st13)))))))))
set_option maxHeartbeats 4000000 in
theorem zX1_forgetOldest (l : Launch) (X : WX) (st : St)  (R : St) (hf : fX1_forgetOldest st = some R) : CtV l yX1_forgetOldest cX1_forgetOldest 1 ({ frames := 1, cells := 0, slots := 0, locals := 64 }) EC 65 X [.ref (xq X 44)] st R := by
  refine ct_in (own := RX1) (by decide +kernel) rfl (Nat.le_of_ble_eq_true rfl) (fun p e s m below meth c C hr hw ls hl => ?_)
  obtain ⟨hx, hb, hml, hown, hts⟩ := id C.1
  have hl : lv_has ls 1 [(0, .ref (xq X 44))] := hl
  unfold fX1_forgetOldest at hf
  refine lv_aload_n hx hb dX1_forgetOldest_0 rfl (lv_at hl 0 rfl) ?_
  refine lv_dup hx hb dX1_forgetOldest_1 rfl ?_
  refine w_get (T := TX1) C hw (by decide) 0 kf_X1_22 (EC_44 X _ _) rfl inA1 (by decide) rfl dX1_forgetOldest_2 ?_
  refine lv_iconst (v := 1) hx hb dX1_forgetOldest_5 (by decide) ?_
  refine lv_isub hx hb dX1_forgetOldest_6 ?_
  obtain ⟨st1, es2⟩ : ∃ z : St, z = sI st 44 0 ((gI st 44 0) - (1 : Int32)) := ⟨_, rfl⟩
  replace hf := bnd_nm hf es2
  refine w_puti (T := TX1) C hw (by decide) 0 kf_X1_22 (EC_44 X _ _) rfl inA1 tyX1_ok nmX1 (by decide) rfl rfl (Nat.le_of_ble_eq_true rfl) rfl dX1_forgetOldest_7 (fun H locs hw => ?_)
  rw [← es2] at hw
  refine lv_aload_n hx hb dX1_forgetOldest_10 rfl (lv_at hl 0 rfl) ?_
  refine w_get (T := TX1) C hw (by decide) 2 kf_X1_9 (EC_44 X _ _) rfl inA1 (by decide) rfl dX1_forgetOldest_11 ?_
  refine lv_iconst (v := 1) hx hb dX1_forgetOldest_14 (by decide) ?_
  refine lv_aload_n hx hb dX1_forgetOldest_15 rfl (lv_at hl 0 rfl) ?_
  refine w_get (T := TX1) C hw (by decide) 2 kf_X1_9 (EC_44 X _ _) rfl inA1 (by decide) rfl dX1_forgetOldest_16 ?_
  refine lv_iconst (v := 0) hx hb dX1_forgetOldest_19 (by decide) ?_
  refine lv_aload_n hx hb dX1_forgetOldest_20 rfl (lv_at hl 0 rfl) ?_
  refine w_get (T := TX1) C hw (by decide) 0 kf_X1_22 (EC_44 X _ _) rfl inA1 (by decide) rfl dX1_forgetOldest_21 ?_
  obtain ⟨h3, hf⟩ := gd_some hf
  obtain ⟨st4, es5⟩ : ∃ z : St, z = sIs st1 45 (va_cpy (gI st1 45) (gI st1 45) (1 : Int32).toNatClampNeg (0 : Int32).toNatClampNeg (gI st1 44 0).toNatClampNeg) := ⟨_, rfl⟩
  replace hf := bnd_nm hf es5
  refine w_cpyi C hw hl.1 km_X1_32 (by decide) (by decide) (EC_45 X _ _) (fun f9 => EC_45 X f9 _) h3 (Nat.le_of_ble_eq_true rfl) (Nat.le_of_ble_eq_true rfl) dX1_forgetOldest_24 (fun H locs hw => ?_)
  rw [← es5] at hw
  refine lv_aload_n hx hb dX1_forgetOldest_27 rfl (lv_at hl 0 rfl) ?_
  refine w_get (T := TX1) C hw (by decide) 3 kf_X1_13 (EC_44 X _ _) rfl inA1 (by decide) rfl dX1_forgetOldest_28 ?_
  refine lv_iconst (v := 1) hx hb dX1_forgetOldest_31 (by decide) ?_
  refine lv_aload_n hx hb dX1_forgetOldest_32 rfl (lv_at hl 0 rfl) ?_
  refine w_get (T := TX1) C hw (by decide) 3 kf_X1_13 (EC_44 X _ _) rfl inA1 (by decide) rfl dX1_forgetOldest_33 ?_
  refine lv_iconst (v := 0) hx hb dX1_forgetOldest_36 (by decide) ?_
  refine lv_aload_n hx hb dX1_forgetOldest_37 rfl (lv_at hl 0 rfl) ?_
  refine w_get (T := TX1) C hw (by decide) 0 kf_X1_22 (EC_44 X _ _) rfl inA1 (by decide) rfl dX1_forgetOldest_38 ?_
  obtain ⟨h6, hf⟩ := gd_some hf
  obtain ⟨st7, es8⟩ : ∃ z : St, z = sIs st4 46 (va_cpy (gI st4 46) (gI st4 46) (1 : Int32).toNatClampNeg (0 : Int32).toNatClampNeg (gI st4 44 0).toNatClampNeg) := ⟨_, rfl⟩
  replace hf := bnd_nm hf es8
  refine w_cpyi C hw hl.1 km_X1_32 (by decide) (by decide) (EC_46 X _ _) (fun f9 => EC_46 X f9 _) h6 (Nat.le_of_ble_eq_true rfl) (Nat.le_of_ble_eq_true rfl) dX1_forgetOldest_41 (fun H locs hw => ?_)
  rw [← es8] at hw
  refine lv_aload_n hx hb dX1_forgetOldest_44 rfl (lv_at hl 0 rfl) ?_
  refine w_get (T := TX1) C hw (by decide) 4 kf_X1_16 (EC_44 X _ _) rfl inA1 (by decide) rfl dX1_forgetOldest_45 ?_
  refine lv_iconst (v := 1) hx hb dX1_forgetOldest_48 (by decide) ?_
  refine lv_aload_n hx hb dX1_forgetOldest_49 rfl (lv_at hl 0 rfl) ?_
  refine w_get (T := TX1) C hw (by decide) 4 kf_X1_16 (EC_44 X _ _) rfl inA1 (by decide) rfl dX1_forgetOldest_50 ?_
  refine lv_iconst (v := 0) hx hb dX1_forgetOldest_53 (by decide) ?_
  refine lv_aload_n hx hb dX1_forgetOldest_54 rfl (lv_at hl 0 rfl) ?_
  refine w_get (T := TX1) C hw (by decide) 0 kf_X1_22 (EC_44 X _ _) rfl inA1 (by decide) rfl dX1_forgetOldest_55 ?_
  obtain ⟨h9, hf⟩ := gd_some hf
  obtain ⟨st10, es11⟩ : ∃ z : St, z = sIs st7 47 (va_cpy (gI st7 47) (gI st7 47) (1 : Int32).toNatClampNeg (0 : Int32).toNatClampNeg (gI st7 44 0).toNatClampNeg) := ⟨_, rfl⟩
  replace hf := bnd_nm hf es11
  refine w_cpyi C hw hl.1 km_X1_32 (by decide) (by decide) (EC_47 X _ _) (fun f9 => EC_47 X f9 _) h9 (Nat.le_of_ble_eq_true rfl) (Nat.le_of_ble_eq_true rfl) dX1_forgetOldest_58 (fun H locs hw => ?_)
  rw [← es11] at hw
  refine lv_aload_n hx hb dX1_forgetOldest_61 rfl (lv_at hl 0 rfl) ?_
  refine w_get (T := TX1) C hw (by decide) 5 kf_X1_19 (EC_44 X _ _) rfl inA1 (by decide) rfl dX1_forgetOldest_62 ?_
  refine lv_iconst (v := 1) hx hb dX1_forgetOldest_65 (by decide) ?_
  refine lv_aload_n hx hb dX1_forgetOldest_66 rfl (lv_at hl 0 rfl) ?_
  refine w_get (T := TX1) C hw (by decide) 5 kf_X1_19 (EC_44 X _ _) rfl inA1 (by decide) rfl dX1_forgetOldest_67 ?_
  refine lv_iconst (v := 0) hx hb dX1_forgetOldest_70 (by decide) ?_
  refine lv_aload_n hx hb dX1_forgetOldest_71 rfl (lv_at hl 0 rfl) ?_
  refine w_get (T := TX1) C hw (by decide) 0 kf_X1_22 (EC_44 X _ _) rfl inA1 (by decide) rfl dX1_forgetOldest_72 ?_
  obtain ⟨h12, hf⟩ := gd_some hf
  obtain ⟨st13, es14⟩ : ∃ z : St, z = sIs st10 48 (va_cpy (gI st10 48) (gI st10 48) (1 : Int32).toNatClampNeg (0 : Int32).toNatClampNeg (gI st10 44 0).toNatClampNeg) := ⟨_, rfl⟩
  replace hf := bnd_nm hf es14
  refine w_cpyi C hw hl.1 km_X1_32 (by decide) (by decide) (EC_48 X _ _) (fun f9 => EC_48 X f9 _) h12 (Nat.le_of_ble_eq_true rfl) (Nat.le_of_ble_eq_true rfl) dX1_forgetOldest_75 (fun H locs hw => ?_)
  rw [← es14] at hw
  exact w_vret C hw hr (Option.some.inj hf) dX1_forgetOldest_78
theorem dX1_add_0 : decode cX1_add 0 = .ok (.aload_n 0, 1) := by decide +kernel
theorem dX1_add_1 : decode cX1_add 1 = .ok (.getfield 22, 3) := by decide +kernel
theorem dX1_add_4 : decode cX1_add 4 = .ok (.bipush 40, 2) := by decide +kernel
theorem dX1_add_6 : decode cX1_add 6 = .ok (.if_icmp .ne 7, 3) := by decide +kernel
theorem dX1_add_9 : decode cX1_add 9 = .ok (.aload_n 0, 1) := by decide +kernel
theorem dX1_add_10 : decode cX1_add 10 = .ok (.invokevirtual 26, 3) := by decide +kernel
theorem dX1_add_13 : decode cX1_add 13 = .ok (.aload_n 0, 1) := by decide +kernel
theorem dX1_add_14 : decode cX1_add 14 = .ok (.getfield 9, 3) := by decide +kernel
theorem dX1_add_17 : decode cX1_add 17 = .ok (.aload_n 0, 1) := by decide +kernel
theorem dX1_add_18 : decode cX1_add 18 = .ok (.getfield 22, 3) := by decide +kernel
theorem dX1_add_21 : decode cX1_add 21 = .ok (.iload_n 1, 1) := by decide +kernel
theorem dX1_add_22 : decode cX1_add 22 = .ok (.iastore, 1) := by decide +kernel
theorem dX1_add_23 : decode cX1_add 23 = .ok (.aload_n 0, 1) := by decide +kernel
theorem dX1_add_24 : decode cX1_add 24 = .ok (.getfield 13, 3) := by decide +kernel
theorem dX1_add_27 : decode cX1_add 27 = .ok (.aload_n 0, 1) := by decide +kernel
theorem dX1_add_28 : decode cX1_add 28 = .ok (.getfield 22, 3) := by decide +kernel
theorem dX1_add_31 : decode cX1_add 31 = .ok (.iload_n 2, 1) := by decide +kernel
theorem dX1_add_32 : decode cX1_add 32 = .ok (.iastore, 1) := by decide +kernel
theorem dX1_add_33 : decode cX1_add 33 = .ok (.aload_n 0, 1) := by decide +kernel
theorem dX1_add_34 : decode cX1_add 34 = .ok (.getfield 16, 3) := by decide +kernel
theorem dX1_add_37 : decode cX1_add 37 = .ok (.aload_n 0, 1) := by decide +kernel
theorem dX1_add_38 : decode cX1_add 38 = .ok (.getfield 22, 3) := by decide +kernel
theorem dX1_add_41 : decode cX1_add 41 = .ok (.iload_n 3, 1) := by decide +kernel
theorem dX1_add_42 : decode cX1_add 42 = .ok (.iastore, 1) := by decide +kernel
theorem dX1_add_43 : decode cX1_add 43 = .ok (.aload_n 0, 1) := by decide +kernel
theorem dX1_add_44 : decode cX1_add 44 = .ok (.getfield 19, 3) := by decide +kernel
theorem dX1_add_47 : decode cX1_add 47 = .ok (.aload_n 0, 1) := by decide +kernel
theorem dX1_add_48 : decode cX1_add 48 = .ok (.getfield 22, 3) := by decide +kernel
theorem dX1_add_51 : decode cX1_add 51 = .ok (.iload 4, 2) := by decide +kernel
theorem dX1_add_53 : decode cX1_add 53 = .ok (.iastore, 1) := by decide +kernel
theorem dX1_add_54 : decode cX1_add 54 = .ok (.aload_n 0, 1) := by decide +kernel
theorem dX1_add_55 : decode cX1_add 55 = .ok (.dup, 1) := by decide +kernel
theorem dX1_add_56 : decode cX1_add 56 = .ok (.getfield 22, 3) := by decide +kernel
theorem dX1_add_59 : decode cX1_add 59 = .ok (.iconst 1, 1) := by decide +kernel
theorem dX1_add_60 : decode cX1_add 60 = .ok (.iadd, 1) := by decide +kernel
theorem dX1_add_61 : decode cX1_add 61 = .ok (.putfield 22, 3) := by decide +kernel
theorem dX1_add_64 : decode cX1_add 64 = .ok (.aload_n 0, 1) := by decide +kernel
theorem dX1_add_65 : decode cX1_add 65 = .ok (.iconst 0, 1) := by decide +kernel
theorem dX1_add_66 : decode cX1_add 66 = .ok (.putfield 29, 3) := by decide +kernel
theorem dX1_add_69 : decode cX1_add 69 = .ok (.return_, 1) := by decide +kernel
theorem ok_yX1_add : yOk yX1_add 4 := ⟨by decide +kernel, by decide +kernel, by decide +kernel⟩
def fX1_add_13 (st : St) (v1 : Int32) (v2 : Int32) (v3 : Int32) (v4 : Int32) : Option (St) := gd (inB (gI st 44 0) 40) (bnd (sI st 45 (gI st 44 0).toNatClampNeg v1) (fun st5 => gd (inB (gI st5 44 0) 40) (bnd (sI st5 46 (gI st5 44 0).toNatClampNeg v2) (fun st8 => gd (inB (gI st8 44 0) 40) (bnd (sI st8 47 (gI st8 44 0).toNatClampNeg v3) (fun st11 => gd (inB (gI st11 44 0) 40) (bnd (sI st11 48 (gI st11 44 0).toNatClampNeg v4) (fun st14 => bnd (sI st14 44 0 ((gI st14 44 0) + (1 : Int32))) (fun st16 => bnd (sI st16 44 1 (0 : Int32)) (fun st18 => some st18))))))))))
set_option maxHeartbeats 4000000 in
theorem tX1_add_13 {p : Program} {l : Launch} {e : Env} {s : State} {m : MethodId} {args : Array Value} {below : List Frame} {meth : Method} {c : Code} {X : WX} (C : Amb 65 X p s m args meth c cX1_add 5 RX1) (hr : meth.sig.returnType = none) {R : St} : ∀ (st : St) (v1 : Int32) (v2 : Int32) (v3 : Int32) (v4 : Int32) (H : Heap) (locs : List Loc) (ls : Array Slot), Wd EC 65 X s.heap st H locs → lv_has ls 5 [(0, .ref (xq X 44)), (1, .int v1), (2, .int v2), (3, .int v3), (4, .int v4)] → fX1_add_13 st v1 v2 v3 v4 = some R → W p l e { frames := 2, cells := 0, slots := 0, locals := 84 } s m args below meth c H locs 0 0 (QV EC 65 X R below args s) (F0 m 13 ls []) := by
  obtain ⟨hx, hb, hml, hown, hts⟩ := id C.1
  intro st v1 v2 v3 v4 H locs ls  hw hl hf
  unfold fX1_add_13 at hf
  refine lv_aload_n hx hb dX1_add_13 rfl (lv_at hl 0 rfl) ?_
  refine w_get (T := TX1) C hw (by decide) 2 kf_X1_9 (EC_44 X _ _) rfl inA1 (by decide) rfl dX1_add_14 ?_
  refine lv_aload_n hx hb dX1_add_17 rfl (lv_at hl 0 rfl) ?_
  refine w_get (T := TX1) C hw (by decide) 0 kf_X1_22 (EC_44 X _ _) rfl inA1 (by decide) rfl dX1_add_18 ?_
  refine lv_iload_n hx hb dX1_add_21 rfl (lv_at hl 1 rfl) ?_
  obtain ⟨h4, hf⟩ := gd_some hf
  obtain ⟨st5, es6⟩ : ∃ z : St, z = sI st 45 (gI st 44 0).toNatClampNeg v1 := ⟨_, rfl⟩
  replace hf := bnd_nm hf es6
  refine w_iast C hw (by decide) (fun f9 => EC_45 X f9 _) h4 rfl dX1_add_22 (fun H locs hw => ?_)
  rw [← es6] at hw
  refine lv_aload_n hx hb dX1_add_23 rfl (lv_at hl 0 rfl) ?_
  refine w_get (T := TX1) C hw (by decide) 3 kf_X1_13 (EC_44 X _ _) rfl inA1 (by decide) rfl dX1_add_24 ?_
  refine lv_aload_n hx hb dX1_add_27 rfl (lv_at hl 0 rfl) ?_
  refine w_get (T := TX1) C hw (by decide) 0 kf_X1_22 (EC_44 X _ _) rfl inA1 (by decide) rfl dX1_add_28 ?_
  refine lv_iload_n hx hb dX1_add_31 rfl (lv_at hl 2 rfl) ?_
  obtain ⟨h7, hf⟩ := gd_some hf
  obtain ⟨st8, es9⟩ : ∃ z : St, z = sI st5 46 (gI st5 44 0).toNatClampNeg v2 := ⟨_, rfl⟩
  replace hf := bnd_nm hf es9
  refine w_iast C hw (by decide) (fun f9 => EC_46 X f9 _) h7 rfl dX1_add_32 (fun H locs hw => ?_)
  rw [← es9] at hw
  refine lv_aload_n hx hb dX1_add_33 rfl (lv_at hl 0 rfl) ?_
  refine w_get (T := TX1) C hw (by decide) 4 kf_X1_16 (EC_44 X _ _) rfl inA1 (by decide) rfl dX1_add_34 ?_
  refine lv_aload_n hx hb dX1_add_37 rfl (lv_at hl 0 rfl) ?_
  refine w_get (T := TX1) C hw (by decide) 0 kf_X1_22 (EC_44 X _ _) rfl inA1 (by decide) rfl dX1_add_38 ?_
  refine lv_iload_n hx hb dX1_add_41 rfl (lv_at hl 3 rfl) ?_
  obtain ⟨h10, hf⟩ := gd_some hf
  obtain ⟨st11, es12⟩ : ∃ z : St, z = sI st8 47 (gI st8 44 0).toNatClampNeg v3 := ⟨_, rfl⟩
  replace hf := bnd_nm hf es12
  refine w_iast C hw (by decide) (fun f9 => EC_47 X f9 _) h10 rfl dX1_add_42 (fun H locs hw => ?_)
  rw [← es12] at hw
  refine lv_aload_n hx hb dX1_add_43 rfl (lv_at hl 0 rfl) ?_
  refine w_get (T := TX1) C hw (by decide) 5 kf_X1_19 (EC_44 X _ _) rfl inA1 (by decide) rfl dX1_add_44 ?_
  refine lv_aload_n hx hb dX1_add_47 rfl (lv_at hl 0 rfl) ?_
  refine w_get (T := TX1) C hw (by decide) 0 kf_X1_22 (EC_44 X _ _) rfl inA1 (by decide) rfl dX1_add_48 ?_
  refine lv_iload hx hb dX1_add_51 (lv_at hl 4 rfl) ?_
  obtain ⟨h13, hf⟩ := gd_some hf
  obtain ⟨st14, es15⟩ : ∃ z : St, z = sI st11 48 (gI st11 44 0).toNatClampNeg v4 := ⟨_, rfl⟩
  replace hf := bnd_nm hf es15
  refine w_iast C hw (by decide) (fun f9 => EC_48 X f9 _) h13 rfl dX1_add_53 (fun H locs hw => ?_)
  rw [← es15] at hw
  refine lv_aload_n hx hb dX1_add_54 rfl (lv_at hl 0 rfl) ?_
  refine lv_dup hx hb dX1_add_55 rfl ?_
  refine w_get (T := TX1) C hw (by decide) 0 kf_X1_22 (EC_44 X _ _) rfl inA1 (by decide) rfl dX1_add_56 ?_
  refine lv_iconst (v := 1) hx hb dX1_add_59 (by decide) ?_
  refine lv_iadd hx hb dX1_add_60 ?_
  obtain ⟨st16, es17⟩ : ∃ z : St, z = sI st14 44 0 ((gI st14 44 0) + (1 : Int32)) := ⟨_, rfl⟩
  replace hf := bnd_nm hf es17
  refine w_puti (T := TX1) C hw (by decide) 0 kf_X1_22 (EC_44 X _ _) rfl inA1 tyX1_ok nmX1 (by decide) rfl rfl (Nat.le_of_ble_eq_true rfl) rfl dX1_add_61 (fun H locs hw => ?_)
  rw [← es17] at hw
  refine lv_aload_n hx hb dX1_add_64 rfl (lv_at hl 0 rfl) ?_
  refine lv_iconst (v := 0) hx hb dX1_add_65 (by decide) ?_
  obtain ⟨st18, es19⟩ : ∃ z : St, z = sI st16 44 1 (0 : Int32) := ⟨_, rfl⟩
  replace hf := bnd_nm hf es19
  refine w_puti (T := TX1) C hw (by decide) 1 kf_X1_29 (EC_44 X _ _) rfl inA1 tyX1_ok nmX1 (by decide) rfl rfl (Nat.le_of_ble_eq_true rfl) rfl dX1_add_66 (fun H locs hw => ?_)
  rw [← es19] at hw
  exact w_vret C hw hr (Option.some.inj hf) dX1_add_69
def fX1_add (st : St) (a1 : Int32) (a2 : Int32) (a3 : Int32) (a4 : Int32) : Option (St) := if gI st 44 0 = (40 : Int32) then ((fX1_forgetOldest st).bind (fun r2 => fX1_add_13 r2 a1 a2 a3 a4)) else (fX1_add_13 st a1 a2 a3 a4)
set_option maxHeartbeats 4000000 in
theorem zX1_add (l : Launch) (X : WX) (st : St) (a1 : Int32) (a2 : Int32) (a3 : Int32) (a4 : Int32) (R : St) (hf : fX1_add st a1 a2 a3 a4 = some R) : CtV l yX1_add cX1_add 5 ({ frames := 2, cells := 0, slots := 0, locals := 84 }) EC 65 X [.ref (xq X 44), .int a1, .int a2, .int a3, .int a4] st R := by
  refine ct_in (own := RX1) (by decide +kernel) rfl (Nat.le_of_ble_eq_true rfl) (fun p e s m below meth c C hr hw ls hl => ?_)
  obtain ⟨hx, hb, hml, hown, hts⟩ := id C.1
  have hl : lv_has ls 5 [(0, .ref (xq X 44)), (1, .int a1), (2, .int a2), (3, .int a3), (4, .int a4)] := hl
  unfold fX1_add at hf
  refine lv_aload_n hx hb dX1_add_0 rfl (lv_at hl 0 rfl) ?_
  refine w_get (T := TX1) C hw (by decide) 0 kf_X1_22 (EC_44 X _ _) rfl inA1 (by decide) rfl dX1_add_1 ?_
  refine lv_bipush (v := 40) hx hb dX1_add_4 (by decide) ?_
  refine lv_icmp_ne (tgt := 13) hx hb dX1_add_6 (by decide) (fun c1 => ?_) (fun c1 => ?_)
  · replace hf := ite_f hf c1
    exact tX1_add_13 C hr st a1 a2 a3 a4 _ _ _ hw (lv_sub hl [0, 1, 2, 3, 4] rfl) hf
  · replace hf := ite_t hf c1
    refine lv_aload_n hx hb dX1_add_9 rfl (lv_at hl 0 rfl) ?_
    obtain ⟨r2, k3, hf⟩ := bd_some hf
    refine w_goV hw (w_runV (rest := []) C hw (zX1_forgetOldest _ _ st r2 k3) (by decide) (EC_44 X _ _) rfl km_X1_26 ki_yX1_forgetOldest kv_X1_forgetOldest kz_X1 kc_X1_forgetOldest rfl ok_yX1_forgetOldest ⟨Nat.le_of_ble_eq_true rfl, Nat.le_of_ble_eq_true rfl⟩ rfl rfl rfl rfl hl.1 (Nat.le_of_ble_eq_true rfl) dX1_add_10 ⟨Nat.zero_le _, Nat.zero_le _⟩) (fun H locs hw => ?_)
    exact tX1_add_13 C hr r2 a1 a2 a3 a4 _ _ _ hw (lv_sub hl [0, 1, 2, 3, 4] rfl) hf
theorem dX1_takeBack_0 : decode cX1_takeBack 0 = .ok (.aload_n 0, 1) := by decide +kernel
theorem dX1_takeBack_1 : decode cX1_takeBack 1 = .ok (.dup, 1) := by decide +kernel
theorem dX1_takeBack_2 : decode cX1_takeBack 2 = .ok (.getfield 22, 3) := by decide +kernel
theorem dX1_takeBack_5 : decode cX1_takeBack 5 = .ok (.iconst 1, 1) := by decide +kernel
theorem dX1_takeBack_6 : decode cX1_takeBack 6 = .ok (.isub, 1) := by decide +kernel
theorem dX1_takeBack_7 : decode cX1_takeBack 7 = .ok (.putfield 22, 3) := by decide +kernel
theorem dX1_takeBack_10 : decode cX1_takeBack 10 = .ok (.aload_n 0, 1) := by decide +kernel
theorem dX1_takeBack_11 : decode cX1_takeBack 11 = .ok (.dup, 1) := by decide +kernel
theorem dX1_takeBack_12 : decode cX1_takeBack 12 = .ok (.getfield 29, 3) := by decide +kernel
theorem dX1_takeBack_15 : decode cX1_takeBack 15 = .ok (.iconst 1, 1) := by decide +kernel
theorem dX1_takeBack_16 : decode cX1_takeBack 16 = .ok (.iadd, 1) := by decide +kernel
theorem dX1_takeBack_17 : decode cX1_takeBack 17 = .ok (.putfield 29, 3) := by decide +kernel
theorem dX1_takeBack_20 : decode cX1_takeBack 20 = .ok (.aload_n 1, 1) := by decide +kernel
theorem dX1_takeBack_21 : decode cX1_takeBack 21 = .ok (.getfield 38, 3) := by decide +kernel
theorem dX1_takeBack_24 : decode cX1_takeBack 24 = .ok (.aload_n 0, 1) := by decide +kernel
theorem dX1_takeBack_25 : decode cX1_takeBack 25 = .ok (.getfield 13, 3) := by decide +kernel
theorem dX1_takeBack_28 : decode cX1_takeBack 28 = .ok (.aload_n 0, 1) := by decide +kernel
theorem dX1_takeBack_29 : decode cX1_takeBack 29 = .ok (.getfield 22, 3) := by decide +kernel
theorem dX1_takeBack_32 : decode cX1_takeBack 32 = .ok (.iaload, 1) := by decide +kernel
theorem dX1_takeBack_33 : decode cX1_takeBack 33 = .ok (.aaload, 1) := by decide +kernel
theorem dX1_takeBack_34 : decode cX1_takeBack 34 = .ok (.aload_n 0, 1) := by decide +kernel
theorem dX1_takeBack_35 : decode cX1_takeBack 35 = .ok (.getfield 9, 3) := by decide +kernel
theorem dX1_takeBack_38 : decode cX1_takeBack 38 = .ok (.aload_n 0, 1) := by decide +kernel
theorem dX1_takeBack_39 : decode cX1_takeBack 39 = .ok (.getfield 22, 3) := by decide +kernel
theorem dX1_takeBack_42 : decode cX1_takeBack 42 = .ok (.iaload, 1) := by decide +kernel
theorem dX1_takeBack_43 : decode cX1_takeBack 43 = .ok (.aload_n 0, 1) := by decide +kernel
theorem dX1_takeBack_44 : decode cX1_takeBack 44 = .ok (.getfield 16, 3) := by decide +kernel
theorem dX1_takeBack_47 : decode cX1_takeBack 47 = .ok (.aload_n 0, 1) := by decide +kernel
theorem dX1_takeBack_48 : decode cX1_takeBack 48 = .ok (.getfield 22, 3) := by decide +kernel
theorem dX1_takeBack_51 : decode cX1_takeBack 51 = .ok (.iaload, 1) := by decide +kernel
theorem dX1_takeBack_52 : decode cX1_takeBack 52 = .ok (.iastore, 1) := by decide +kernel
theorem dX1_takeBack_53 : decode cX1_takeBack 53 = .ok (.aload_n 0, 1) := by decide +kernel
theorem dX1_takeBack_54 : decode cX1_takeBack 54 = .ok (.getfield 22, 3) := by decide +kernel
theorem dX1_takeBack_57 : decode cX1_takeBack 57 = .ok (.ireturn, 1) := by decide +kernel
theorem ok_yX1_takeBack : yOk yX1_takeBack 1 := ⟨by decide +kernel, by decide +kernel, by decide +kernel⟩
def fX1_takeBack (st : St) : Option (Int32 × St) := bnd (sI st 44 0 ((gI st 44 0) - (1 : Int32))) (fun st1 => bnd (sI st1 44 1 ((gI st1 44 1) + (1 : Int32))) (fun st3 => gd (inB (gI st3 44 0) 40) (gd (inB (gI st3 46 (gI st3 44 0).toNatClampNeg) 14) (gd (inB (gI st3 44 0) 40) (gd (inB (gI st3 44 0) 40) (gd (inB (gI st3 45 (gI st3 44 0).toNatClampNeg) 13) (bnd (sI st3 (3 + (gI st3 46 (gI st3 44 0).toNatClampNeg).toNatClampNeg) (gI st3 45 (gI st3 44 0).toNatClampNeg).toNatClampNeg (gI st3 47 (gI st3 44 0).toNatClampNeg)) (fun st10 => some ((gI st10 44 0), st10)))))))))
set_option maxHeartbeats 4000000 in
theorem zX1_takeBack (l : Launch) (X : WX) (st : St)  (R : Int32 × St) (hf : fX1_takeBack st = some R) : CtI l yX1_takeBack cX1_takeBack 2 .int ({ frames := 0, cells := 0, slots := 0, locals := 0 }) EC 65 X [.ref (xq X 44), .ref (xq X 1)] st R.1 R.2 := by
  refine ct_in (own := RX1) (by decide +kernel) rfl (Nat.le_of_ble_eq_true rfl) (fun p e s m below meth c C hr hw ls hl => ?_)
  obtain ⟨hx, hb, hml, hown, hts⟩ := id C.1
  have hl : lv_has ls 2 [(0, .ref (xq X 44)), (1, .ref (xq X 1))] := hl
  unfold fX1_takeBack at hf
  refine lv_aload_n hx hb dX1_takeBack_0 rfl (lv_at hl 0 rfl) ?_
  refine lv_dup hx hb dX1_takeBack_1 rfl ?_
  refine w_get (T := TX1) C hw (by decide) 0 kf_X1_22 (EC_44 X _ _) rfl inA1 (by decide) rfl dX1_takeBack_2 ?_
  refine lv_iconst (v := 1) hx hb dX1_takeBack_5 (by decide) ?_
  refine lv_isub hx hb dX1_takeBack_6 ?_
  obtain ⟨st1, es2⟩ : ∃ z : St, z = sI st 44 0 ((gI st 44 0) - (1 : Int32)) := ⟨_, rfl⟩
  replace hf := bnd_nm hf es2
  refine w_puti (T := TX1) C hw (by decide) 0 kf_X1_22 (EC_44 X _ _) rfl inA1 tyX1_ok nmX1 (by decide) rfl rfl (Nat.le_of_ble_eq_true rfl) rfl dX1_takeBack_7 (fun H locs hw => ?_)
  rw [← es2] at hw
  refine lv_aload_n hx hb dX1_takeBack_10 rfl (lv_at hl 0 rfl) ?_
  refine lv_dup hx hb dX1_takeBack_11 rfl ?_
  refine w_get (T := TX1) C hw (by decide) 1 kf_X1_29 (EC_44 X _ _) rfl inA1 (by decide) rfl dX1_takeBack_12 ?_
  refine lv_iconst (v := 1) hx hb dX1_takeBack_15 (by decide) ?_
  refine lv_iadd hx hb dX1_takeBack_16 ?_
  obtain ⟨st3, es4⟩ : ∃ z : St, z = sI st1 44 1 ((gI st1 44 1) + (1 : Int32)) := ⟨_, rfl⟩
  replace hf := bnd_nm hf es4
  refine w_puti (T := TX1) C hw (by decide) 1 kf_X1_29 (EC_44 X _ _) rfl inA1 tyX1_ok nmX1 (by decide) rfl rfl (Nat.le_of_ble_eq_true rfl) rfl dX1_takeBack_17 (fun H locs hw => ?_)
  rw [← es4] at hw
  refine lv_aload_n hx hb dX1_takeBack_20 rfl (lv_at hl 1 rfl) ?_
  refine w_get (T := TX3) C hw (by decide) 0 kf_X1_38 (EC_1 X _ _) rfl inA3 (by decide) rfl dX1_takeBack_21 ?_
  refine lv_aload_n hx hb dX1_takeBack_24 rfl (lv_at hl 0 rfl) ?_
  refine w_get (T := TX1) C hw (by decide) 3 kf_X1_13 (EC_44 X _ _) rfl inA1 (by decide) rfl dX1_takeBack_25 ?_
  refine lv_aload_n hx hb dX1_takeBack_28 rfl (lv_at hl 0 rfl) ?_
  refine w_get (T := TX1) C hw (by decide) 0 kf_X1_22 (EC_44 X _ _) rfl inA1 (by decide) rfl dX1_takeBack_29 ?_
  obtain ⟨h5, hf⟩ := gd_some hf
  refine w_iald C hw (by decide) (EC_46 X _ _) h5 rfl dX1_takeBack_32 ?_
  obtain ⟨h6, hf⟩ := gd_some hf
  refine w_aald (k' := (3 + (gI st3 46 (gI st3 44 0).toNatClampNeg).toNatClampNeg)) C hw (by decide) (EC_2 X _ _) rfl rfl h6 rfl dX1_takeBack_33 ?_
  refine lv_aload_n hx hb dX1_takeBack_34 rfl (lv_at hl 0 rfl) ?_
  refine w_get (T := TX1) C hw (by decide) 2 kf_X1_9 (EC_44 X _ _) rfl inA1 (by decide) rfl dX1_takeBack_35 ?_
  refine lv_aload_n hx hb dX1_takeBack_38 rfl (lv_at hl 0 rfl) ?_
  refine w_get (T := TX1) C hw (by decide) 0 kf_X1_22 (EC_44 X _ _) rfl inA1 (by decide) rfl dX1_takeBack_39 ?_
  obtain ⟨h7, hf⟩ := gd_some hf
  refine w_iald C hw (by decide) (EC_45 X _ _) h7 rfl dX1_takeBack_42 ?_
  refine lv_aload_n hx hb dX1_takeBack_43 rfl (lv_at hl 0 rfl) ?_
  refine w_get (T := TX1) C hw (by decide) 4 kf_X1_16 (EC_44 X _ _) rfl inA1 (by decide) rfl dX1_takeBack_44 ?_
  refine lv_aload_n hx hb dX1_takeBack_47 rfl (lv_at hl 0 rfl) ?_
  refine w_get (T := TX1) C hw (by decide) 0 kf_X1_22 (EC_44 X _ _) rfl inA1 (by decide) rfl dX1_takeBack_48 ?_
  obtain ⟨h8, hf⟩ := gd_some hf
  refine w_iald C hw (by decide) (EC_47 X _ _) h8 rfl dX1_takeBack_51 ?_
  obtain ⟨h9, hf⟩ := gd_some hf
  obtain ⟨st10, es11⟩ : ∃ z : St, z = sI st3 (3 + (gI st3 46 (gI st3 44 0).toNatClampNeg).toNatClampNeg) (gI st3 45 (gI st3 44 0).toNatClampNeg).toNatClampNeg (gI st3 47 (gI st3 44 0).toNatClampNeg) := ⟨_, rfl⟩
  replace hf := bnd_nm hf es11
  refine w_iast C hw (EC_rowN h6) (fun f9 => EC_row X h6 f9 _) h9 rfl dX1_takeBack_52 (fun H locs hw => ?_)
  rw [← es11] at hw
  refine lv_aload_n hx hb dX1_takeBack_53 rfl (lv_at hl 0 rfl) ?_
  refine w_get (T := TX1) C hw (by decide) 0 kf_X1_22 (EC_44 X _ _) rfl inA1 (by decide) rfl dX1_takeBack_54 ?_
  exact w_iret C hw hr (so2 hf).1 (so2 hf).2 dX1_takeBack_57
theorem dX1_doAgain_0 : decode cX1_doAgain 0 = .ok (.aload_n 1, 1) := by decide +kernel
theorem dX1_doAgain_1 : decode cX1_doAgain 1 = .ok (.getfield 38, 3) := by decide +kernel
theorem dX1_doAgain_4 : decode cX1_doAgain 4 = .ok (.aload_n 0, 1) := by decide +kernel
theorem dX1_doAgain_5 : decode cX1_doAgain 5 = .ok (.getfield 13, 3) := by decide +kernel
theorem dX1_doAgain_8 : decode cX1_doAgain 8 = .ok (.aload_n 0, 1) := by decide +kernel
theorem dX1_doAgain_9 : decode cX1_doAgain 9 = .ok (.getfield 22, 3) := by decide +kernel
theorem dX1_doAgain_12 : decode cX1_doAgain 12 = .ok (.iaload, 1) := by decide +kernel
theorem dX1_doAgain_13 : decode cX1_doAgain 13 = .ok (.aaload, 1) := by decide +kernel
theorem dX1_doAgain_14 : decode cX1_doAgain 14 = .ok (.aload_n 0, 1) := by decide +kernel
theorem dX1_doAgain_15 : decode cX1_doAgain 15 = .ok (.getfield 9, 3) := by decide +kernel
theorem dX1_doAgain_18 : decode cX1_doAgain 18 = .ok (.aload_n 0, 1) := by decide +kernel
theorem dX1_doAgain_19 : decode cX1_doAgain 19 = .ok (.getfield 22, 3) := by decide +kernel
theorem dX1_doAgain_22 : decode cX1_doAgain 22 = .ok (.iaload, 1) := by decide +kernel
theorem dX1_doAgain_23 : decode cX1_doAgain 23 = .ok (.aload_n 0, 1) := by decide +kernel
theorem dX1_doAgain_24 : decode cX1_doAgain 24 = .ok (.getfield 19, 3) := by decide +kernel
theorem dX1_doAgain_27 : decode cX1_doAgain 27 = .ok (.aload_n 0, 1) := by decide +kernel
theorem dX1_doAgain_28 : decode cX1_doAgain 28 = .ok (.getfield 22, 3) := by decide +kernel
theorem dX1_doAgain_31 : decode cX1_doAgain 31 = .ok (.iaload, 1) := by decide +kernel
theorem dX1_doAgain_32 : decode cX1_doAgain 32 = .ok (.iastore, 1) := by decide +kernel
theorem dX1_doAgain_33 : decode cX1_doAgain 33 = .ok (.aload_n 0, 1) := by decide +kernel
theorem dX1_doAgain_34 : decode cX1_doAgain 34 = .ok (.dup, 1) := by decide +kernel
theorem dX1_doAgain_35 : decode cX1_doAgain 35 = .ok (.getfield 22, 3) := by decide +kernel
theorem dX1_doAgain_38 : decode cX1_doAgain 38 = .ok (.iconst 1, 1) := by decide +kernel
theorem dX1_doAgain_39 : decode cX1_doAgain 39 = .ok (.iadd, 1) := by decide +kernel
theorem dX1_doAgain_40 : decode cX1_doAgain 40 = .ok (.putfield 22, 3) := by decide +kernel
theorem dX1_doAgain_43 : decode cX1_doAgain 43 = .ok (.aload_n 0, 1) := by decide +kernel
theorem dX1_doAgain_44 : decode cX1_doAgain 44 = .ok (.dup, 1) := by decide +kernel
theorem dX1_doAgain_45 : decode cX1_doAgain 45 = .ok (.getfield 29, 3) := by decide +kernel
theorem dX1_doAgain_48 : decode cX1_doAgain 48 = .ok (.iconst 1, 1) := by decide +kernel
theorem dX1_doAgain_49 : decode cX1_doAgain 49 = .ok (.isub, 1) := by decide +kernel
theorem dX1_doAgain_50 : decode cX1_doAgain 50 = .ok (.putfield 29, 3) := by decide +kernel
theorem dX1_doAgain_53 : decode cX1_doAgain 53 = .ok (.aload_n 0, 1) := by decide +kernel
theorem dX1_doAgain_54 : decode cX1_doAgain 54 = .ok (.getfield 29, 3) := by decide +kernel
theorem dX1_doAgain_57 : decode cX1_doAgain 57 = .ok (.ireturn, 1) := by decide +kernel
theorem ok_yX1_doAgain : yOk yX1_doAgain 1 := ⟨by decide +kernel, by decide +kernel, by decide +kernel⟩
def fX1_doAgain (st : St) : Option (Int32 × St) := gd (inB (gI st 44 0) 40) (gd (inB (gI st 46 (gI st 44 0).toNatClampNeg) 14) (gd (inB (gI st 44 0) 40) (gd (inB (gI st 44 0) 40) (gd (inB (gI st 45 (gI st 44 0).toNatClampNeg) 13) (bnd (sI st (3 + (gI st 46 (gI st 44 0).toNatClampNeg).toNatClampNeg) (gI st 45 (gI st 44 0).toNatClampNeg).toNatClampNeg (gI st 48 (gI st 44 0).toNatClampNeg)) (fun st6 => bnd (sI st6 44 0 ((gI st6 44 0) + (1 : Int32))) (fun st8 => bnd (sI st8 44 1 ((gI st8 44 1) - (1 : Int32))) (fun st10 => some ((gI st10 44 1), st10)))))))))
set_option maxHeartbeats 4000000 in
theorem zX1_doAgain (l : Launch) (X : WX) (st : St)  (R : Int32 × St) (hf : fX1_doAgain st = some R) : CtI l yX1_doAgain cX1_doAgain 2 .int ({ frames := 0, cells := 0, slots := 0, locals := 0 }) EC 65 X [.ref (xq X 44), .ref (xq X 1)] st R.1 R.2 := by
  refine ct_in (own := RX1) (by decide +kernel) rfl (Nat.le_of_ble_eq_true rfl) (fun p e s m below meth c C hr hw ls hl => ?_)
  obtain ⟨hx, hb, hml, hown, hts⟩ := id C.1
  have hl : lv_has ls 2 [(0, .ref (xq X 44)), (1, .ref (xq X 1))] := hl
  unfold fX1_doAgain at hf
  refine lv_aload_n hx hb dX1_doAgain_0 rfl (lv_at hl 1 rfl) ?_
  refine w_get (T := TX3) C hw (by decide) 0 kf_X1_38 (EC_1 X _ _) rfl inA3 (by decide) rfl dX1_doAgain_1 ?_
  refine lv_aload_n hx hb dX1_doAgain_4 rfl (lv_at hl 0 rfl) ?_
  refine w_get (T := TX1) C hw (by decide) 3 kf_X1_13 (EC_44 X _ _) rfl inA1 (by decide) rfl dX1_doAgain_5 ?_
  refine lv_aload_n hx hb dX1_doAgain_8 rfl (lv_at hl 0 rfl) ?_
  refine w_get (T := TX1) C hw (by decide) 0 kf_X1_22 (EC_44 X _ _) rfl inA1 (by decide) rfl dX1_doAgain_9 ?_
  obtain ⟨h1, hf⟩ := gd_some hf
  refine w_iald C hw (by decide) (EC_46 X _ _) h1 rfl dX1_doAgain_12 ?_
  obtain ⟨h2, hf⟩ := gd_some hf
  refine w_aald (k' := (3 + (gI st 46 (gI st 44 0).toNatClampNeg).toNatClampNeg)) C hw (by decide) (EC_2 X _ _) rfl rfl h2 rfl dX1_doAgain_13 ?_
  refine lv_aload_n hx hb dX1_doAgain_14 rfl (lv_at hl 0 rfl) ?_
  refine w_get (T := TX1) C hw (by decide) 2 kf_X1_9 (EC_44 X _ _) rfl inA1 (by decide) rfl dX1_doAgain_15 ?_
  refine lv_aload_n hx hb dX1_doAgain_18 rfl (lv_at hl 0 rfl) ?_
  refine w_get (T := TX1) C hw (by decide) 0 kf_X1_22 (EC_44 X _ _) rfl inA1 (by decide) rfl dX1_doAgain_19 ?_
  obtain ⟨h3, hf⟩ := gd_some hf
  refine w_iald C hw (by decide) (EC_45 X _ _) h3 rfl dX1_doAgain_22 ?_
  refine lv_aload_n hx hb dX1_doAgain_23 rfl (lv_at hl 0 rfl) ?_
  refine w_get (T := TX1) C hw (by decide) 5 kf_X1_19 (EC_44 X _ _) rfl inA1 (by decide) rfl dX1_doAgain_24 ?_
  refine lv_aload_n hx hb dX1_doAgain_27 rfl (lv_at hl 0 rfl) ?_
  refine w_get (T := TX1) C hw (by decide) 0 kf_X1_22 (EC_44 X _ _) rfl inA1 (by decide) rfl dX1_doAgain_28 ?_
  obtain ⟨h4, hf⟩ := gd_some hf
  refine w_iald C hw (by decide) (EC_48 X _ _) h4 rfl dX1_doAgain_31 ?_
  obtain ⟨h5, hf⟩ := gd_some hf
  obtain ⟨st6, es7⟩ : ∃ z : St, z = sI st (3 + (gI st 46 (gI st 44 0).toNatClampNeg).toNatClampNeg) (gI st 45 (gI st 44 0).toNatClampNeg).toNatClampNeg (gI st 48 (gI st 44 0).toNatClampNeg) := ⟨_, rfl⟩
  replace hf := bnd_nm hf es7
  refine w_iast C hw (EC_rowN h2) (fun f9 => EC_row X h2 f9 _) h5 rfl dX1_doAgain_32 (fun H locs hw => ?_)
  rw [← es7] at hw
  refine lv_aload_n hx hb dX1_doAgain_33 rfl (lv_at hl 0 rfl) ?_
  refine lv_dup hx hb dX1_doAgain_34 rfl ?_
  refine w_get (T := TX1) C hw (by decide) 0 kf_X1_22 (EC_44 X _ _) rfl inA1 (by decide) rfl dX1_doAgain_35 ?_
  refine lv_iconst (v := 1) hx hb dX1_doAgain_38 (by decide) ?_
  refine lv_iadd hx hb dX1_doAgain_39 ?_
  obtain ⟨st8, es9⟩ : ∃ z : St, z = sI st6 44 0 ((gI st6 44 0) + (1 : Int32)) := ⟨_, rfl⟩
  replace hf := bnd_nm hf es9
  refine w_puti (T := TX1) C hw (by decide) 0 kf_X1_22 (EC_44 X _ _) rfl inA1 tyX1_ok nmX1 (by decide) rfl rfl (Nat.le_of_ble_eq_true rfl) rfl dX1_doAgain_40 (fun H locs hw => ?_)
  rw [← es9] at hw
  refine lv_aload_n hx hb dX1_doAgain_43 rfl (lv_at hl 0 rfl) ?_
  refine lv_dup hx hb dX1_doAgain_44 rfl ?_
  refine w_get (T := TX1) C hw (by decide) 1 kf_X1_29 (EC_44 X _ _) rfl inA1 (by decide) rfl dX1_doAgain_45 ?_
  refine lv_iconst (v := 1) hx hb dX1_doAgain_48 (by decide) ?_
  refine lv_isub hx hb dX1_doAgain_49 ?_
  obtain ⟨st10, es11⟩ : ∃ z : St, z = sI st8 44 1 ((gI st8 44 1) - (1 : Int32)) := ⟨_, rfl⟩
  replace hf := bnd_nm hf es11
  refine w_puti (T := TX1) C hw (by decide) 1 kf_X1_29 (EC_44 X _ _) rfl inA1 tyX1_ok nmX1 (by decide) rfl rfl (Nat.le_of_ble_eq_true rfl) rfl dX1_doAgain_50 (fun H locs hw => ?_)
  rw [← es11] at hw
  refine lv_aload_n hx hb dX1_doAgain_53 rfl (lv_at hl 0 rfl) ?_
  refine w_get (T := TX1) C hw (by decide) 1 kf_X1_29 (EC_44 X _ _) rfl inA1 (by decide) rfl dX1_doAgain_54 ?_
  exact w_iret C hw hr (so2 hf).1 (so2 hf).2 dX1_doAgain_57
