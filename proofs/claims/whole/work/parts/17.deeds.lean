theorem dX2_copyOf_0 : decode cX2_copyOf 0 = .ok (.aload_n 1, 1) := by decide +kernel
theorem dX2_copyOf_1 : decode cX2_copyOf 1 = .ok (.getfield 9, 3) := by decide +kernel
theorem dX2_copyOf_4 : decode cX2_copyOf 4 = .ok (.iconst 0, 1) := by decide +kernel
theorem dX2_copyOf_5 : decode cX2_copyOf 5 = .ok (.aload_n 0, 1) := by decide +kernel
theorem dX2_copyOf_6 : decode cX2_copyOf 6 = .ok (.getfield 9, 3) := by decide +kernel
theorem dX2_copyOf_9 : decode cX2_copyOf 9 = .ok (.iconst 0, 1) := by decide +kernel
theorem dX2_copyOf_10 : decode cX2_copyOf 10 = .ok (.aload_n 0, 1) := by decide +kernel
theorem dX2_copyOf_11 : decode cX2_copyOf 11 = .ok (.getfield 9, 3) := by decide +kernel
theorem dX2_copyOf_14 : decode cX2_copyOf 14 = .ok (.arraylength, 1) := by decide +kernel
theorem dX2_copyOf_15 : decode cX2_copyOf 15 = .ok (.invokestatic 15, 3) := by decide +kernel
theorem dX2_copyOf_18 : decode cX2_copyOf 18 = .ok (.aload_n 0, 1) := by decide +kernel
theorem dX2_copyOf_19 : decode cX2_copyOf 19 = .ok (.aload_n 1, 1) := by decide +kernel
theorem dX2_copyOf_20 : decode cX2_copyOf 20 = .ok (.getfield 21, 3) := by decide +kernel
theorem dX2_copyOf_23 : decode cX2_copyOf 23 = .ok (.putfield 21, 3) := by decide +kernel
theorem dX2_copyOf_26 : decode cX2_copyOf 26 = .ok (.aload_n 0, 1) := by decide +kernel
theorem dX2_copyOf_27 : decode cX2_copyOf 27 = .ok (.aload_n 1, 1) := by decide +kernel
theorem dX2_copyOf_28 : decode cX2_copyOf 28 = .ok (.getfield 25, 3) := by decide +kernel
theorem dX2_copyOf_31 : decode cX2_copyOf 31 = .ok (.putfield 25, 3) := by decide +kernel
theorem dX2_copyOf_34 : decode cX2_copyOf 34 = .ok (.aload_n 0, 1) := by decide +kernel
theorem dX2_copyOf_35 : decode cX2_copyOf 35 = .ok (.aload_n 1, 1) := by decide +kernel
theorem dX2_copyOf_36 : decode cX2_copyOf 36 = .ok (.getfield 28, 3) := by decide +kernel
theorem dX2_copyOf_39 : decode cX2_copyOf 39 = .ok (.putfield 28, 3) := by decide +kernel
theorem dX2_copyOf_42 : decode cX2_copyOf 42 = .ok (.aload_n 0, 1) := by decide +kernel
theorem dX2_copyOf_43 : decode cX2_copyOf 43 = .ok (.aload_n 1, 1) := by decide +kernel
theorem dX2_copyOf_44 : decode cX2_copyOf 44 = .ok (.getfield 31, 3) := by decide +kernel
theorem dX2_copyOf_47 : decode cX2_copyOf 47 = .ok (.putfield 31, 3) := by decide +kernel
theorem dX2_copyOf_50 : decode cX2_copyOf 50 = .ok (.return_, 1) := by decide +kernel
theorem ok_yX2_copyOf : yOk yX2_copyOf 1 := ⟨by decide +kernel, by decide +kernel, by decide +kernel⟩
def fX2_copyOf_1 (st : St) : Option (St) := gd (cpB (0 : Int32) (0 : Int32) (36 : Int32) 36 36) (bnd (sIs st 42 (va_cpy (gI st 40) (gI st 42) (0 : Int32).toNatClampNeg (0 : Int32).toNatClampNeg (36 : Int32).toNatClampNeg)) (fun st2 => bnd (sI st2 41 1 (gI st2 39 1)) (fun st4 => bnd (sI st4 41 2 (gI st4 39 2)) (fun st6 => bnd (sI st6 41 3 (gI st6 39 3)) (fun st8 => bnd (sI st8 41 4 (gI st8 39 4)) (fun st10 => some st10))))))
set_option maxHeartbeats 4000000 in
theorem zX2_copyOf_1 (l : Launch) (X : WX) (st : St)  (R : St) (hf : fX2_copyOf_1 st = some R) : CtV l yX2_copyOf cX2_copyOf 2 ({ frames := 1, cells := 0, slots := 0, locals := 64 }) EC 65 X [.ref (xq X 41), .ref (xq X 39)] st R := by
  refine ct_in (own := RX2) (by decide +kernel) rfl (Nat.le_of_ble_eq_true rfl) (fun p e s m below meth c C hr hw ls hl => ?_)
  obtain ⟨hx, hb, hml, hown, hts⟩ := id C.1
  have hl : lv_has ls 2 [(0, .ref (xq X 41)), (1, .ref (xq X 39))] := hl
  unfold fX2_copyOf_1 at hf
  refine lv_aload_n hx hb dX2_copyOf_0 rfl (lv_at hl 1 rfl) ?_
  refine w_get (T := TX2) C hw (by decide) 0 kf_X2_9 (EC_39 X _ _) rfl inA2 (by decide) rfl dX2_copyOf_1 ?_
  refine lv_iconst (v := 0) hx hb dX2_copyOf_4 (by decide) ?_
  refine lv_aload_n hx hb dX2_copyOf_5 rfl (lv_at hl 0 rfl) ?_
  refine w_get (T := TX2) C hw (by decide) 0 kf_X2_9 (EC_41 X _ _) rfl inA2 (by decide) rfl dX2_copyOf_6 ?_
  refine lv_iconst (v := 0) hx hb dX2_copyOf_9 (by decide) ?_
  refine lv_aload_n hx hb dX2_copyOf_10 rfl (lv_at hl 0 rfl) ?_
  refine w_get (T := TX2) C hw (by decide) 0 kf_X2_9 (EC_41 X _ _) rfl inA2 (by decide) rfl dX2_copyOf_11 ?_
  refine w_alen (v := 36) C hw (by decide) (EC_42 X _ _) rfl rfl dX2_copyOf_14 ?_
  obtain ⟨h1, hf⟩ := gd_some hf
  obtain ⟨st2, es3⟩ : ∃ z : St, z = sIs st 42 (va_cpy (gI st 40) (gI st 42) (0 : Int32).toNatClampNeg (0 : Int32).toNatClampNeg (36 : Int32).toNatClampNeg) := ⟨_, rfl⟩
  replace hf := bnd_nm hf es3
  refine w_cpyi C hw hl.1 km_X2_15 (by decide) (by decide) (EC_40 X _ _) (fun f9 => EC_42 X f9 _) h1 (Nat.le_of_ble_eq_true rfl) (Nat.le_of_ble_eq_true rfl) dX2_copyOf_15 (fun H locs hw => ?_)
  rw [← es3] at hw
  refine lv_aload_n hx hb dX2_copyOf_18 rfl (lv_at hl 0 rfl) ?_
  refine lv_aload_n hx hb dX2_copyOf_19 rfl (lv_at hl 1 rfl) ?_
  refine w_get (T := TX2) C hw (by decide) 1 kf_X2_21 (EC_39 X _ _) rfl inA2 (by decide) rfl dX2_copyOf_20 ?_
  obtain ⟨st4, es5⟩ : ∃ z : St, z = sI st2 41 1 (gI st2 39 1) := ⟨_, rfl⟩
  replace hf := bnd_nm hf es5
  refine w_puti (T := TX2) C hw (by decide) 1 kf_X2_21 (EC_41 X _ _) rfl inA2 tyX2_ok nmX2 (by decide) rfl rfl (Nat.le_of_ble_eq_true rfl) rfl dX2_copyOf_23 (fun H locs hw => ?_)
  rw [← es5] at hw
  refine lv_aload_n hx hb dX2_copyOf_26 rfl (lv_at hl 0 rfl) ?_
  refine lv_aload_n hx hb dX2_copyOf_27 rfl (lv_at hl 1 rfl) ?_
  refine w_get (T := TX2) C hw (by decide) 2 kf_X2_25 (EC_39 X _ _) rfl inA2 (by decide) rfl dX2_copyOf_28 ?_
  obtain ⟨st6, es7⟩ : ∃ z : St, z = sI st4 41 2 (gI st4 39 2) := ⟨_, rfl⟩
  replace hf := bnd_nm hf es7
  refine w_puti (T := TX2) C hw (by decide) 2 kf_X2_25 (EC_41 X _ _) rfl inA2 tyX2_ok nmX2 (by decide) rfl rfl (Nat.le_of_ble_eq_true rfl) rfl dX2_copyOf_31 (fun H locs hw => ?_)
  rw [← es7] at hw
  refine lv_aload_n hx hb dX2_copyOf_34 rfl (lv_at hl 0 rfl) ?_
  refine lv_aload_n hx hb dX2_copyOf_35 rfl (lv_at hl 1 rfl) ?_
  refine w_get (T := TX2) C hw (by decide) 3 kf_X2_28 (EC_39 X _ _) rfl inA2 (by decide) rfl dX2_copyOf_36 ?_
  obtain ⟨st8, es9⟩ : ∃ z : St, z = sI st6 41 3 (gI st6 39 3) := ⟨_, rfl⟩
  replace hf := bnd_nm hf es9
  refine w_puti (T := TX2) C hw (by decide) 3 kf_X2_28 (EC_41 X _ _) rfl inA2 tyX2_ok nmX2 (by decide) rfl rfl (Nat.le_of_ble_eq_true rfl) rfl dX2_copyOf_39 (fun H locs hw => ?_)
  rw [← es9] at hw
  refine lv_aload_n hx hb dX2_copyOf_42 rfl (lv_at hl 0 rfl) ?_
  refine lv_aload_n hx hb dX2_copyOf_43 rfl (lv_at hl 1 rfl) ?_
  refine w_get (T := TX2) C hw (by decide) 4 kf_X2_31 (EC_39 X _ _) rfl inA2 (by decide) rfl dX2_copyOf_44 ?_
  obtain ⟨st10, es11⟩ : ∃ z : St, z = sI st8 41 4 (gI st8 39 4) := ⟨_, rfl⟩
  replace hf := bnd_nm hf es11
  refine w_puti (T := TX2) C hw (by decide) 4 kf_X2_31 (EC_41 X _ _) rfl inA2 tyX2_ok nmX2 (by decide) rfl rfl (Nat.le_of_ble_eq_true rfl) rfl dX2_copyOf_47 (fun H locs hw => ?_)
  rw [← es11] at hw
  exact w_vret C hw hr (Option.some.inj hf) dX2_copyOf_50
def fX2_copyOf_2 (st : St) : Option (St) := gd (cpB (0 : Int32) (0 : Int32) (36 : Int32) 36 36) (bnd (sIs st 40 (va_cpy (gI st 42) (gI st 40) (0 : Int32).toNatClampNeg (0 : Int32).toNatClampNeg (36 : Int32).toNatClampNeg)) (fun st2 => bnd (sI st2 39 1 (gI st2 41 1)) (fun st4 => bnd (sI st4 39 2 (gI st4 41 2)) (fun st6 => bnd (sI st6 39 3 (gI st6 41 3)) (fun st8 => bnd (sI st8 39 4 (gI st8 41 4)) (fun st10 => some st10))))))
set_option maxHeartbeats 4000000 in
theorem zX2_copyOf_2 (l : Launch) (X : WX) (st : St)  (R : St) (hf : fX2_copyOf_2 st = some R) : CtV l yX2_copyOf cX2_copyOf 2 ({ frames := 1, cells := 0, slots := 0, locals := 64 }) EC 65 X [.ref (xq X 39), .ref (xq X 41)] st R := by
  refine ct_in (own := RX2) (by decide +kernel) rfl (Nat.le_of_ble_eq_true rfl) (fun p e s m below meth c C hr hw ls hl => ?_)
  obtain ⟨hx, hb, hml, hown, hts⟩ := id C.1
  have hl : lv_has ls 2 [(0, .ref (xq X 39)), (1, .ref (xq X 41))] := hl
  unfold fX2_copyOf_2 at hf
  refine lv_aload_n hx hb dX2_copyOf_0 rfl (lv_at hl 1 rfl) ?_
  refine w_get (T := TX2) C hw (by decide) 0 kf_X2_9 (EC_41 X _ _) rfl inA2 (by decide) rfl dX2_copyOf_1 ?_
  refine lv_iconst (v := 0) hx hb dX2_copyOf_4 (by decide) ?_
  refine lv_aload_n hx hb dX2_copyOf_5 rfl (lv_at hl 0 rfl) ?_
  refine w_get (T := TX2) C hw (by decide) 0 kf_X2_9 (EC_39 X _ _) rfl inA2 (by decide) rfl dX2_copyOf_6 ?_
  refine lv_iconst (v := 0) hx hb dX2_copyOf_9 (by decide) ?_
  refine lv_aload_n hx hb dX2_copyOf_10 rfl (lv_at hl 0 rfl) ?_
  refine w_get (T := TX2) C hw (by decide) 0 kf_X2_9 (EC_39 X _ _) rfl inA2 (by decide) rfl dX2_copyOf_11 ?_
  refine w_alen (v := 36) C hw (by decide) (EC_40 X _ _) rfl rfl dX2_copyOf_14 ?_
  obtain ⟨h1, hf⟩ := gd_some hf
  obtain ⟨st2, es3⟩ : ∃ z : St, z = sIs st 40 (va_cpy (gI st 42) (gI st 40) (0 : Int32).toNatClampNeg (0 : Int32).toNatClampNeg (36 : Int32).toNatClampNeg) := ⟨_, rfl⟩
  replace hf := bnd_nm hf es3
  refine w_cpyi C hw hl.1 km_X2_15 (by decide) (by decide) (EC_42 X _ _) (fun f9 => EC_40 X f9 _) h1 (Nat.le_of_ble_eq_true rfl) (Nat.le_of_ble_eq_true rfl) dX2_copyOf_15 (fun H locs hw => ?_)
  rw [← es3] at hw
  refine lv_aload_n hx hb dX2_copyOf_18 rfl (lv_at hl 0 rfl) ?_
  refine lv_aload_n hx hb dX2_copyOf_19 rfl (lv_at hl 1 rfl) ?_
  refine w_get (T := TX2) C hw (by decide) 1 kf_X2_21 (EC_41 X _ _) rfl inA2 (by decide) rfl dX2_copyOf_20 ?_
  obtain ⟨st4, es5⟩ : ∃ z : St, z = sI st2 39 1 (gI st2 41 1) := ⟨_, rfl⟩
  replace hf := bnd_nm hf es5
  refine w_puti (T := TX2) C hw (by decide) 1 kf_X2_21 (EC_39 X _ _) rfl inA2 tyX2_ok nmX2 (by decide) rfl rfl (Nat.le_of_ble_eq_true rfl) rfl dX2_copyOf_23 (fun H locs hw => ?_)
  rw [← es5] at hw
  refine lv_aload_n hx hb dX2_copyOf_26 rfl (lv_at hl 0 rfl) ?_
  refine lv_aload_n hx hb dX2_copyOf_27 rfl (lv_at hl 1 rfl) ?_
  refine w_get (T := TX2) C hw (by decide) 2 kf_X2_25 (EC_41 X _ _) rfl inA2 (by decide) rfl dX2_copyOf_28 ?_
  obtain ⟨st6, es7⟩ : ∃ z : St, z = sI st4 39 2 (gI st4 41 2) := ⟨_, rfl⟩
  replace hf := bnd_nm hf es7
  refine w_puti (T := TX2) C hw (by decide) 2 kf_X2_25 (EC_39 X _ _) rfl inA2 tyX2_ok nmX2 (by decide) rfl rfl (Nat.le_of_ble_eq_true rfl) rfl dX2_copyOf_31 (fun H locs hw => ?_)
  rw [← es7] at hw
  refine lv_aload_n hx hb dX2_copyOf_34 rfl (lv_at hl 0 rfl) ?_
  refine lv_aload_n hx hb dX2_copyOf_35 rfl (lv_at hl 1 rfl) ?_
  refine w_get (T := TX2) C hw (by decide) 3 kf_X2_28 (EC_41 X _ _) rfl inA2 (by decide) rfl dX2_copyOf_36 ?_
  obtain ⟨st8, es9⟩ : ∃ z : St, z = sI st6 39 3 (gI st6 41 3) := ⟨_, rfl⟩
  replace hf := bnd_nm hf es9
  refine w_puti (T := TX2) C hw (by decide) 3 kf_X2_28 (EC_39 X _ _) rfl inA2 tyX2_ok nmX2 (by decide) rfl rfl (Nat.le_of_ble_eq_true rfl) rfl dX2_copyOf_39 (fun H locs hw => ?_)
  rw [← es9] at hw
  refine lv_aload_n hx hb dX2_copyOf_42 rfl (lv_at hl 0 rfl) ?_
  refine lv_aload_n hx hb dX2_copyOf_43 rfl (lv_at hl 1 rfl) ?_
  refine w_get (T := TX2) C hw (by decide) 4 kf_X2_31 (EC_41 X _ _) rfl inA2 (by decide) rfl dX2_copyOf_44 ?_
  obtain ⟨st10, es11⟩ : ∃ z : St, z = sI st8 39 4 (gI st8 41 4) := ⟨_, rfl⟩
  replace hf := bnd_nm hf es11
  refine w_puti (T := TX2) C hw (by decide) 4 kf_X2_31 (EC_39 X _ _) rfl inA2 tyX2_ok nmX2 (by decide) rfl rfl (Nat.le_of_ble_eq_true rfl) rfl dX2_copyOf_47 (fun H locs hw => ?_)
  rw [← es11] at hw
  exact w_vret C hw hr (Option.some.inj hf) dX2_copyOf_50
