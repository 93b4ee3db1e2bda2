theorem dX7_refusalOfRow_0 : decode cX7_refusalOfRow 0 = .ok (.aload_n 0, 1) := by decide +kernel
theorem dX7_refusalOfRow_1 : decode cX7_refusalOfRow 1 = .ok (.getfield 15, 3) := by decide +kernel
theorem dX7_refusalOfRow_4 : decode cX7_refusalOfRow 4 = .ok (.ifCond .ne 6, 3) := by decide +kernel
theorem dX7_refusalOfRow_7 : decode cX7_refusalOfRow 7 = .ok (.bipush (-11), 2) := by decide +kernel
theorem dX7_refusalOfRow_9 : decode cX7_refusalOfRow 9 = .ok (.ireturn, 1) := by decide +kernel
theorem dX7_refusalOfRow_10 : decode cX7_refusalOfRow 10 = .ok (.aload_n 0, 1) := by decide +kernel
theorem dX7_refusalOfRow_11 : decode cX7_refusalOfRow 11 = .ok (.getfield 15, 3) := by decide +kernel
theorem dX7_refusalOfRow_14 : decode cX7_refusalOfRow 14 = .ok (.iconst 2, 1) := by decide +kernel
theorem dX7_refusalOfRow_15 : decode cX7_refusalOfRow 15 = .ok (.if_icmp .ne 15, 3) := by decide +kernel
theorem dX7_refusalOfRow_18 : decode cX7_refusalOfRow 18 = .ok (.aload_n 0, 1) := by decide +kernel
theorem dX7_refusalOfRow_19 : decode cX7_refusalOfRow 19 = .ok (.getfield 22, 3) := by decide +kernel
theorem dX7_refusalOfRow_22 : decode cX7_refusalOfRow 22 = .ok (.iload_n 1, 1) := by decide +kernel
theorem dX7_refusalOfRow_23 : decode cX7_refusalOfRow 23 = .ok (.if_icmp .ne 7, 3) := by decide +kernel
theorem dX7_refusalOfRow_26 : decode cX7_refusalOfRow 26 = .ok (.iconst 0, 1) := by decide +kernel
theorem dX7_refusalOfRow_27 : decode cX7_refusalOfRow 27 = .ok (.goto 5, 3) := by decide +kernel
theorem dX7_refusalOfRow_30 : decode cX7_refusalOfRow 30 = .ok (.bipush (-12), 2) := by decide +kernel
theorem dX7_refusalOfRow_32 : decode cX7_refusalOfRow 32 = .ok (.ireturn, 1) := by decide +kernel
theorem ok_yX7_refusalOfRow : yOk yX7_refusalOfRow 1 := ⟨by decide +kernel, by decide +kernel, by decide +kernel⟩
def fX7_refusalOfRow (st : St) (i0 : Nat) (a1 : Int32) : Int32 := if gI st (53 + 2 * i0) 0 = 0 then ((-11 : Int32)) else (if gI st (53 + 2 * i0) 0 = (2 : Int32) then (if gI st (53 + 2 * i0) 2 = a1 then ((0 : Int32)) else ((-12 : Int32))) else ((-12 : Int32)))
set_option maxHeartbeats 4000000 in
theorem zX7_refusalOfRow (l : Launch) (X : WX) (st : St) (i0 : Nat) (a1 : Int32) (hi0 : i0 < 6) : CtI l yX7_refusalOfRow cX7_refusalOfRow 2 .int ({ frames := 0, cells := 0, slots := 0, locals := 0 }) EC 65 X [.ref (xq X (53 + 2 * i0)), .int a1] st (fX7_refusalOfRow st i0 a1) st := by
  generalize hf : fX7_refusalOfRow st i0 a1 = R
  refine ct_in (own := RX7) (by decide +kernel) rfl (Nat.le_of_ble_eq_true rfl) (fun p e s m below meth c C hr hw ls hl => ?_)
  obtain ⟨hx, hb, hml, hown, hts⟩ := id C.1
  have hl : lv_has ls 2 [(0, .ref (xq X (53 + 2 * i0))), (1, .int a1)] := hl
  unfold fX7_refusalOfRow at hf
  refine lv_aload_n hx hb dX7_refusalOfRow_0 rfl (lv_at hl 0 rfl) ?_
  refine w_get (T := TX7) C hw (by have := hi0; omega) 0 kf_X7_15 (EC_sh X hi0 _ _) rfl inA7 (by decide) rfl dX7_refusalOfRow_1 ?_
  refine lv_if_ne (tgt := 10) hx hb dX7_refusalOfRow_4 (by decide) (fun c1 => ?_) (fun c1 => ?_)
  · replace hf := ite_f hf c1
    refine lv_aload_n hx hb dX7_refusalOfRow_10 rfl (lv_at hl 0 rfl) ?_
    refine w_get (T := TX7) C hw (by have := hi0; omega) 0 kf_X7_15 (EC_sh X hi0 _ _) rfl inA7 (by decide) rfl dX7_refusalOfRow_11 ?_
    refine lv_iconst (v := 2) hx hb dX7_refusalOfRow_14 (by decide) ?_
    refine lv_icmp_ne (tgt := 30) hx hb dX7_refusalOfRow_15 (by decide) (fun c2 => ?_) (fun c2 => ?_)
    · replace hf := ite_f hf c2
      refine lv_bipush (v := -12) hx hb dX7_refusalOfRow_30 (by decide) ?_
      exact w_iret C hw hr hf rfl dX7_refusalOfRow_32
    · replace hf := ite_t hf c2
      refine lv_aload_n hx hb dX7_refusalOfRow_18 rfl (lv_at hl 0 rfl) ?_
      refine w_get (T := TX7) C hw (by have := hi0; omega) 2 kf_X7_22 (EC_sh X hi0 _ _) rfl inA7 (by decide) rfl dX7_refusalOfRow_19 ?_
      refine lv_iload_n hx hb dX7_refusalOfRow_22 rfl (lv_at hl 1 rfl) ?_
      refine lv_icmp_ne (tgt := 30) hx hb dX7_refusalOfRow_23 (by decide) (fun c3 => ?_) (fun c3 => ?_)
      · replace hf := ite_f hf c3
        refine lv_bipush (v := -12) hx hb dX7_refusalOfRow_30 (by decide) ?_
        exact w_iret C hw hr hf rfl dX7_refusalOfRow_32
      · replace hf := ite_t hf c3
        refine lv_iconst (v := 0) hx hb dX7_refusalOfRow_26 (by decide) ?_
        refine lv_goto (tgt := 32) hx hb dX7_refusalOfRow_27 (by decide) ?_
        exact w_iret C hw hr hf rfl dX7_refusalOfRow_32
  · replace hf := ite_t hf c1
    refine lv_bipush (v := -11) hx hb dX7_refusalOfRow_7 (by decide) ?_
    exact w_iret C hw hr hf rfl dX7_refusalOfRow_9
theorem dX7_hold_0 : decode cX7_hold 0 = .ok (.aload_n 0, 1) := by decide +kernel
theorem dX7_hold_1 : decode cX7_hold 1 = .ok (.iload_n 1, 1) := by decide +kernel
theorem dX7_hold_2 : decode cX7_hold 2 = .ok (.ifCond .ge 7, 3) := by decide +kernel
theorem dX7_hold_5 : decode cX7_hold 5 = .ok (.iconst 0, 1) := by decide +kernel
theorem dX7_hold_6 : decode cX7_hold 6 = .ok (.goto 4, 3) := by decide +kernel
theorem dX7_hold_9 : decode cX7_hold 9 = .ok (.iconst 1, 1) := by decide +kernel
theorem dX7_hold_10 : decode cX7_hold 10 = .ok (.putfield 15, 3) := by decide +kernel
theorem dX7_hold_13 : decode cX7_hold 13 = .ok (.aload_n 0, 1) := by decide +kernel
theorem dX7_hold_14 : decode cX7_hold 14 = .ok (.iload_n 1, 1) := by decide +kernel
theorem dX7_hold_15 : decode cX7_hold 15 = .ok (.putfield 19, 3) := by decide +kernel
theorem dX7_hold_18 : decode cX7_hold 18 = .ok (.return_, 1) := by decide +kernel
theorem ok_yX7_hold : yOk yX7_hold 1 := ⟨by decide +kernel, by decide +kernel, by decide +kernel⟩
def fX7_hold (st : St) (i0 : Nat) (a1 : Int32) : St := if 0 ≤ a1 then (bnd (sI st (53 + 2 * i0) 0 (1 : Int32)) (fun st2 => bnd (sI st2 (53 + 2 * i0) 1 a1) (fun st4 => st4))) else (bnd (sI st (53 + 2 * i0) 0 (0 : Int32)) (fun st6 => bnd (sI st6 (53 + 2 * i0) 1 a1) (fun st8 => st8)))
set_option maxHeartbeats 4000000 in
theorem zX7_hold (l : Launch) (X : WX) (st : St) (i0 : Nat) (a1 : Int32) (hi0 : i0 < 6) (R : St) (hf : fX7_hold st i0 a1 = R) : CtV l yX7_hold cX7_hold 2 ({ frames := 0, cells := 0, slots := 0, locals := 0 }) EC 65 X [.ref (xq X (53 + 2 * i0)), .int a1] st R := by
  refine ct_in (own := RX7) (by decide +kernel) rfl (Nat.le_of_ble_eq_true rfl) (fun p e s m below meth c C hr hw ls hl => ?_)
  obtain ⟨hx, hb, hml, hown, hts⟩ := id C.1
  have hl : lv_has ls 2 [(0, .ref (xq X (53 + 2 * i0))), (1, .int a1)] := hl
  unfold fX7_hold at hf
  refine lv_aload_n hx hb dX7_hold_0 rfl (lv_at hl 0 rfl) ?_
  refine lv_iload_n hx hb dX7_hold_1 rfl (lv_at hl 1 rfl) ?_
  refine lv_if_ge (tgt := 9) hx hb dX7_hold_2 (by decide) (fun c1 => ?_) (fun c1 => ?_)
  · replace hf := ite_t hf c1
    refine lv_iconst (v := 1) hx hb dX7_hold_9 (by decide) ?_
    obtain ⟨st2, es3⟩ : ∃ z : St, z = sI st (53 + 2 * i0) 0 (1 : Int32) := ⟨_, rfl⟩
    replace hf := bnd_nm hf es3
    refine w_puti (T := TX7) C hw (by have := hi0; omega) 0 kf_X7_15 (EC_sh X hi0 _ _) rfl inA7 tyX7_ok nmX7 (by decide) rfl rfl (Nat.le_of_ble_eq_true rfl) (by rw [EC_sh X hi0]; rfl) dX7_hold_10 (fun H locs hw => ?_)
    rw [← es3] at hw
    refine lv_aload_n hx hb dX7_hold_13 rfl (lv_at hl 0 rfl) ?_
    refine lv_iload_n hx hb dX7_hold_14 rfl (lv_at hl 1 rfl) ?_
    obtain ⟨st4, es5⟩ : ∃ z : St, z = sI st2 (53 + 2 * i0) 1 a1 := ⟨_, rfl⟩
    replace hf := bnd_nm hf es5
    refine w_puti (T := TX7) C hw (by have := hi0; omega) 1 kf_X7_19 (EC_sh X hi0 _ _) rfl inA7 tyX7_ok nmX7 (by decide) rfl rfl (Nat.le_of_ble_eq_true rfl) (by rw [EC_sh X hi0]; rfl) dX7_hold_15 (fun H locs hw => ?_)
    rw [← es5] at hw
    exact w_vret C hw hr hf dX7_hold_18
  · replace hf := ite_f hf c1
    refine lv_iconst (v := 0) hx hb dX7_hold_5 (by decide) ?_
    refine lv_goto (tgt := 10) hx hb dX7_hold_6 (by decide) ?_
    obtain ⟨st6, es7⟩ : ∃ z : St, z = sI st (53 + 2 * i0) 0 (0 : Int32) := ⟨_, rfl⟩
    replace hf := bnd_nm hf es7
    refine w_puti (T := TX7) C hw (by have := hi0; omega) 0 kf_X7_15 (EC_sh X hi0 _ _) rfl inA7 tyX7_ok nmX7 (by decide) rfl rfl (Nat.le_of_ble_eq_true rfl) (by rw [EC_sh X hi0]; rfl) dX7_hold_10 (fun H locs hw => ?_)
    rw [← es7] at hw
    refine lv_aload_n hx hb dX7_hold_13 rfl (lv_at hl 0 rfl) ?_
    refine lv_iload_n hx hb dX7_hold_14 rfl (lv_at hl 1 rfl) ?_
    obtain ⟨st8, es9⟩ : ∃ z : St, z = sI st6 (53 + 2 * i0) 1 a1 := ⟨_, rfl⟩
    replace hf := bnd_nm hf es9
    refine w_puti (T := TX7) C hw (by have := hi0; omega) 1 kf_X7_19 (EC_sh X hi0 _ _) rfl inA7 tyX7_ok nmX7 (by decide) rfl rfl (Nat.le_of_ble_eq_true rfl) (by rw [EC_sh X hi0]; rfl) dX7_hold_15 (fun H locs hw => ?_)
    rw [← es9] at hw
    exact w_vret C hw hr hf dX7_hold_18
theorem dX7_holdRow_0 : decode cX7_holdRow 0 = .ok (.aload_n 0, 1) := by decide +kernel
theorem dX7_holdRow_1 : decode cX7_holdRow 1 = .ok (.iconst 2, 1) := by decide +kernel
theorem dX7_holdRow_2 : decode cX7_holdRow 2 = .ok (.putfield 15, 3) := by decide +kernel
theorem dX7_holdRow_5 : decode cX7_holdRow 5 = .ok (.aload_n 0, 1) := by decide +kernel
theorem dX7_holdRow_6 : decode cX7_holdRow 6 = .ok (.iload_n 1, 1) := by decide +kernel
theorem dX7_holdRow_7 : decode cX7_holdRow 7 = .ok (.putfield 22, 3) := by decide +kernel
theorem dX7_holdRow_10 : decode cX7_holdRow 10 = .ok (.aload_n 0, 1) := by decide +kernel
theorem dX7_holdRow_11 : decode cX7_holdRow 11 = .ok (.iload_n 2, 1) := by decide +kernel
theorem dX7_holdRow_12 : decode cX7_holdRow 12 = .ok (.putfield 25, 3) := by decide +kernel
theorem dX7_holdRow_15 : decode cX7_holdRow 15 = .ok (.aload_n 0, 1) := by decide +kernel
theorem dX7_holdRow_16 : decode cX7_holdRow 16 = .ok (.getfield 11, 3) := by decide +kernel
theorem dX7_holdRow_19 : decode cX7_holdRow 19 = .ok (.lconst 0, 1) := by decide +kernel
theorem dX7_holdRow_20 : decode cX7_holdRow 20 = .ok (.invokestatic 28, 3) := by decide +kernel
theorem dX7_holdRow_23 : decode cX7_holdRow 23 = .ok (.return_, 1) := by decide +kernel
theorem ok_yX7_holdRow : yOk yX7_holdRow 2 := ⟨by decide +kernel, by decide +kernel, by decide +kernel⟩
def fX7_holdRow (st : St) (i0 : Nat) (a1 : Int32) (a2 : Int32) : St := bnd (sI st (53 + 2 * i0) 0 (2 : Int32)) (fun st1 => bnd (sI st1 (53 + 2 * i0) 2 a1) (fun st3 => bnd (sI st3 (53 + 2 * i0) 3 a2) (fun st5 => bnd (sLs st5 (54 + 2 * i0) (flL (gL st5 (54 + 2 * i0)) 60 (0 : Int64))) (fun st7 => st7))))
set_option maxHeartbeats 4000000 in
theorem zX7_holdRow (l : Launch) (X : WX) (st : St) (i0 : Nat) (a1 : Int32) (a2 : Int32) (hi0 : i0 < 6) (R : St) (hf : fX7_holdRow st i0 a1 a2 = R) : CtV l yX7_holdRow cX7_holdRow 3 ({ frames := 1, cells := 0, slots := 0, locals := 24 }) EC 65 X [.ref (xq X (53 + 2 * i0)), .int a1, .int a2] st R := by
  refine ct_in (own := RX7) (by decide +kernel) rfl (Nat.le_of_ble_eq_true rfl) (fun p e s m below meth c C hr hw ls hl => ?_)
  obtain ⟨hx, hb, hml, hown, hts⟩ := id C.1
  have hl : lv_has ls 3 [(0, .ref (xq X (53 + 2 * i0))), (1, .int a1), (2, .int a2)] := hl
  unfold fX7_holdRow at hf
  refine lv_aload_n hx hb dX7_holdRow_0 rfl (lv_at hl 0 rfl) ?_
  refine lv_iconst (v := 2) hx hb dX7_holdRow_1 (by decide) ?_
  obtain ⟨st1, es2⟩ : ∃ z : St, z = sI st (53 + 2 * i0) 0 (2 : Int32) := ⟨_, rfl⟩
  replace hf := bnd_nm hf es2
  refine w_puti (T := TX7) C hw (by have := hi0; omega) 0 kf_X7_15 (EC_sh X hi0 _ _) rfl inA7 tyX7_ok nmX7 (by decide) rfl rfl (Nat.le_of_ble_eq_true rfl) (by rw [EC_sh X hi0]; rfl) dX7_holdRow_2 (fun H locs hw => ?_)
  rw [← es2] at hw
  refine lv_aload_n hx hb dX7_holdRow_5 rfl (lv_at hl 0 rfl) ?_
  refine lv_iload_n hx hb dX7_holdRow_6 rfl (lv_at hl 1 rfl) ?_
  obtain ⟨st3, es4⟩ : ∃ z : St, z = sI st1 (53 + 2 * i0) 2 a1 := ⟨_, rfl⟩
  replace hf := bnd_nm hf es4
  refine w_puti (T := TX7) C hw (by have := hi0; omega) 2 kf_X7_22 (EC_sh X hi0 _ _) rfl inA7 tyX7_ok nmX7 (by decide) rfl rfl (Nat.le_of_ble_eq_true rfl) (by rw [EC_sh X hi0]; rfl) dX7_holdRow_7 (fun H locs hw => ?_)
  rw [← es4] at hw
  refine lv_aload_n hx hb dX7_holdRow_10 rfl (lv_at hl 0 rfl) ?_
  refine lv_iload_n hx hb dX7_holdRow_11 rfl (lv_at hl 2 rfl) ?_
  obtain ⟨st5, es6⟩ : ∃ z : St, z = sI st3 (53 + 2 * i0) 3 a2 := ⟨_, rfl⟩
  replace hf := bnd_nm hf es6
  refine w_puti (T := TX7) C hw (by have := hi0; omega) 3 kf_X7_25 (EC_sh X hi0 _ _) rfl inA7 tyX7_ok nmX7 (by decide) rfl rfl (Nat.le_of_ble_eq_true rfl) (by rw [EC_sh X hi0]; rfl) dX7_holdRow_12 (fun H locs hw => ?_)
  rw [← es6] at hw
  refine lv_aload_n hx hb dX7_holdRow_15 rfl (lv_at hl 0 rfl) ?_
  refine w_get (T := TX7) C hw (by have := hi0; omega) 4 kf_X7_11 (EC_sh X hi0 _ _) rfl inA7 (by decide) rfl dX7_holdRow_16 ?_
  refine lv_lconst (v := 0) hx hb dX7_holdRow_19 (by decide) ?_
  obtain ⟨st7, es8⟩ : ∃ z : St, z = sLs st5 (54 + 2 * i0) (flL (gL st5 (54 + 2 * i0)) 60 (0 : Int64)) := ⟨_, rfl⟩
  replace hf := bnd_nm hf es8
  refine w_goV hw (w_runS (rest := []) C hw (zfillL _ _ st5 (54 + 2 * i0) 60 (0 : Int64) (by have := hi0; omega) (fun g9 => EC_el X hi0 _ g9) (by decide)) km_X7_28 kt_yJ7_fill_d0a16 kz_J7 kc_J7_fill_d0a16 ok_yJ7_fill_d0a16 ⟨Nat.le_of_ble_eq_true rfl, Nat.le_of_ble_eq_true rfl⟩ rfl rfl rfl rfl hl.1 (Nat.le_of_ble_eq_true rfl) dX7_holdRow_20 ⟨Nat.zero_le _, Nat.zero_le _⟩) (fun H locs hw => ?_)
  rw [← es8] at hw
  exact w_vret C hw hr hf dX7_holdRow_23
theorem dX7_refusalOfPlace_0 : decode cX7_refusalOfPlace 0 = .ok (.aload_n 0, 1) := by decide +kernel
theorem dX7_refusalOfPlace_1 : decode cX7_refusalOfPlace 1 = .ok (.getfield 15, 3) := by decide +kernel
theorem dX7_refusalOfPlace_4 : decode cX7_refusalOfPlace 4 = .ok (.ifCond .ne 6, 3) := by decide +kernel
theorem dX7_refusalOfPlace_7 : decode cX7_refusalOfPlace 7 = .ok (.bipush (-11), 2) := by decide +kernel
theorem dX7_refusalOfPlace_9 : decode cX7_refusalOfPlace 9 = .ok (.ireturn, 1) := by decide +kernel
theorem dX7_refusalOfPlace_10 : decode cX7_refusalOfPlace 10 = .ok (.aload_n 0, 1) := by decide +kernel
theorem dX7_refusalOfPlace_11 : decode cX7_refusalOfPlace 11 = .ok (.getfield 15, 3) := by decide +kernel
theorem dX7_refusalOfPlace_14 : decode cX7_refusalOfPlace 14 = .ok (.iconst 2, 1) := by decide +kernel
theorem dX7_refusalOfPlace_15 : decode cX7_refusalOfPlace 15 = .ok (.if_icmp .eq 6, 3) := by decide +kernel
theorem dX7_refusalOfPlace_18 : decode cX7_refusalOfPlace 18 = .ok (.bipush (-12), 2) := by decide +kernel
theorem dX7_refusalOfPlace_20 : decode cX7_refusalOfPlace 20 = .ok (.ireturn, 1) := by decide +kernel
theorem dX7_refusalOfPlace_21 : decode cX7_refusalOfPlace 21 = .ok (.iload_n 1, 1) := by decide +kernel
theorem dX7_refusalOfPlace_22 : decode cX7_refusalOfPlace 22 = .ok (.iconst 0, 1) := by decide +kernel
theorem dX7_refusalOfPlace_23 : decode cX7_refusalOfPlace 23 = .ok (.aload_n 0, 1) := by decide +kernel
theorem dX7_refusalOfPlace_24 : decode cX7_refusalOfPlace 24 = .ok (.getfield 25, 3) := by decide +kernel
theorem dX7_refusalOfPlace_27 : decode cX7_refusalOfPlace 27 = .ok (.iconst 1, 1) := by decide +kernel
theorem dX7_refusalOfPlace_28 : decode cX7_refusalOfPlace 28 = .ok (.isub, 1) := by decide +kernel
theorem dX7_refusalOfPlace_29 : decode cX7_refusalOfPlace 29 = .ok (.invokestatic 34, 3) := by decide +kernel
theorem dX7_refusalOfPlace_32 : decode cX7_refusalOfPlace 32 = .ok (.ifCond .eq 7, 3) := by decide +kernel
theorem dX7_refusalOfPlace_35 : decode cX7_refusalOfPlace 35 = .ok (.iconst 0, 1) := by decide +kernel
theorem dX7_refusalOfPlace_36 : decode cX7_refusalOfPlace 36 = .ok (.goto 5, 3) := by decide +kernel
theorem dX7_refusalOfPlace_39 : decode cX7_refusalOfPlace 39 = .ok (.bipush (-13), 2) := by decide +kernel
theorem dX7_refusalOfPlace_41 : decode cX7_refusalOfPlace 41 = .ok (.ireturn, 1) := by decide +kernel
theorem ok_yX7_refusalOfPlace : yOk yX7_refusalOfPlace 1 := ⟨by decide +kernel, by decide +kernel, by decide +kernel⟩
def fX7_refusalOfPlace (st : St) (i0 : Nat) (a1 : Int32) : Int32 := if gI st (53 + 2 * i0) 0 = 0 then ((-11 : Int32)) else (if gI st (53 + 2 * i0) 0 = (2 : Int32) then (if bI (fX11_isWithin a1 (0 : Int32) ((gI st (53 + 2 * i0) 3) - (1 : Int32))) = 0 then ((-13 : Int32)) else ((0 : Int32))) else ((-12 : Int32)))
set_option maxHeartbeats 4000000 in
theorem zX7_refusalOfPlace (l : Launch) (X : WX) (st : St) (i0 : Nat) (a1 : Int32) (hi0 : i0 < 6) : CtI l yX7_refusalOfPlace cX7_refusalOfPlace 2 .int ({ frames := 1, cells := 0, slots := 0, locals := 22 }) EC 65 X [.ref (xq X (53 + 2 * i0)), .int a1] st (fX7_refusalOfPlace st i0 a1) st := by
  generalize hf : fX7_refusalOfPlace st i0 a1 = R
  refine ct_in (own := RX7) (by decide +kernel) rfl (Nat.le_of_ble_eq_true rfl) (fun p e s m below meth c C hr hw ls hl => ?_)
  obtain ⟨hx, hb, hml, hown, hts⟩ := id C.1
  have hl : lv_has ls 2 [(0, .ref (xq X (53 + 2 * i0))), (1, .int a1)] := hl
  unfold fX7_refusalOfPlace at hf
  refine lv_aload_n hx hb dX7_refusalOfPlace_0 rfl (lv_at hl 0 rfl) ?_
  refine w_get (T := TX7) C hw (by have := hi0; omega) 0 kf_X7_15 (EC_sh X hi0 _ _) rfl inA7 (by decide) rfl dX7_refusalOfPlace_1 ?_
  refine lv_if_ne (tgt := 10) hx hb dX7_refusalOfPlace_4 (by decide) (fun c1 => ?_) (fun c1 => ?_)
  · replace hf := ite_f hf c1
    refine lv_aload_n hx hb dX7_refusalOfPlace_10 rfl (lv_at hl 0 rfl) ?_
    refine w_get (T := TX7) C hw (by have := hi0; omega) 0 kf_X7_15 (EC_sh X hi0 _ _) rfl inA7 (by decide) rfl dX7_refusalOfPlace_11 ?_
    refine lv_iconst (v := 2) hx hb dX7_refusalOfPlace_14 (by decide) ?_
    refine lv_icmp_eq (tgt := 21) hx hb dX7_refusalOfPlace_15 (by decide) (fun c2 => ?_) (fun c2 => ?_)
    · replace hf := ite_t hf c2
      refine lv_iload_n hx hb dX7_refusalOfPlace_21 rfl (lv_at hl 1 rfl) ?_
      refine lv_iconst (v := 0) hx hb dX7_refusalOfPlace_22 (by decide) ?_
      refine lv_aload_n hx hb dX7_refusalOfPlace_23 rfl (lv_at hl 0 rfl) ?_
      refine w_get (T := TX7) C hw (by have := hi0; omega) 3 kf_X7_25 (EC_sh X hi0 _ _) rfl inA7 (by decide) rfl dX7_refusalOfPlace_24 ?_
      refine lv_iconst (v := 1) hx hb dX7_refusalOfPlace_27 (by decide) ?_
      refine lv_isub hx hb dX7_refusalOfPlace_28 ?_
      refine w_goI hw (w_runSN (rest := []) C hw (zX11_isWithin _ _ st a1 (0 : Int32) ((gI st (53 + 2 * i0) 3) - (1 : Int32))) C.2.2.1.1.1 kt_yX11_isWithin kz_X11 kc_X11_isWithin ok_yX11_isWithin ⟨Nat.le_of_ble_eq_true rfl, Nat.le_of_ble_eq_true rfl⟩ rfl rfl rfl rfl hl.1 (Nat.le_of_ble_eq_true rfl) dX7_refusalOfPlace_29 ⟨Nat.zero_le _, Nat.zero_le _⟩) (fun H locs hw => ?_)
      refine lv_if_eq (tgt := 39) hx hb dX7_refusalOfPlace_32 (by decide) (fun c3 => ?_) (fun c3 => ?_)
      · replace hf := ite_t hf c3
        refine lv_bipush (v := -13) hx hb dX7_refusalOfPlace_39 (by decide) ?_
        exact w_iret C hw hr hf rfl dX7_refusalOfPlace_41
      · replace hf := ite_f hf c3
        refine lv_iconst (v := 0) hx hb dX7_refusalOfPlace_35 (by decide) ?_
        refine lv_goto (tgt := 41) hx hb dX7_refusalOfPlace_36 (by decide) ?_
        exact w_iret C hw hr hf rfl dX7_refusalOfPlace_41
    · replace hf := ite_f hf c2
      refine lv_bipush (v := -12) hx hb dX7_refusalOfPlace_18 (by decide) ?_
      exact w_iret C hw hr hf rfl dX7_refusalOfPlace_20
  · replace hf := ite_t hf c1
    refine lv_bipush (v := -11) hx hb dX7_refusalOfPlace_7 (by decide) ?_
    exact w_iret C hw hr hf rfl dX7_refusalOfPlace_9
theorem dX7_lowestBits_0 : decode cX7_lowestBits 0 = .ok (.aload_n 0, 1) := by decide +kernel
theorem dX7_lowestBits_1 : decode cX7_lowestBits 1 = .ok (.getfield 22, 3) := by decide +kernel
theorem dX7_lowestBits_4 : decode cX7_lowestBits 4 = .ok (.tableswitch 48 0 3 #[32, 37, 42, 46], 32) := by decide +kernel
theorem dX7_lowestBits_36 : decode cX7_lowestBits 36 = .ok (.lload_n 1, 1) := by decide +kernel
theorem dX7_lowestBits_37 : decode cX7_lowestBits 37 = .ok (.l2i, 1) := by decide +kernel
theorem dX7_lowestBits_38 : decode cX7_lowestBits 38 = .ok (.i2b, 1) := by decide +kernel
theorem dX7_lowestBits_39 : decode cX7_lowestBits 39 = .ok (.i2l, 1) := by decide +kernel
theorem dX7_lowestBits_40 : decode cX7_lowestBits 40 = .ok (.lreturn, 1) := by decide +kernel
theorem dX7_lowestBits_41 : decode cX7_lowestBits 41 = .ok (.lload_n 1, 1) := by decide +kernel
theorem dX7_lowestBits_42 : decode cX7_lowestBits 42 = .ok (.l2i, 1) := by decide +kernel
theorem dX7_lowestBits_43 : decode cX7_lowestBits 43 = .ok (.i2s, 1) := by decide +kernel
theorem dX7_lowestBits_44 : decode cX7_lowestBits 44 = .ok (.i2l, 1) := by decide +kernel
theorem dX7_lowestBits_45 : decode cX7_lowestBits 45 = .ok (.lreturn, 1) := by decide +kernel
theorem dX7_lowestBits_46 : decode cX7_lowestBits 46 = .ok (.lload_n 1, 1) := by decide +kernel
theorem dX7_lowestBits_47 : decode cX7_lowestBits 47 = .ok (.l2i, 1) := by decide +kernel
theorem dX7_lowestBits_48 : decode cX7_lowestBits 48 = .ok (.i2l, 1) := by decide +kernel
theorem dX7_lowestBits_49 : decode cX7_lowestBits 49 = .ok (.lreturn, 1) := by decide +kernel
theorem dX7_lowestBits_50 : decode cX7_lowestBits 50 = .ok (.lload_n 1, 1) := by decide +kernel
theorem dX7_lowestBits_51 : decode cX7_lowestBits 51 = .ok (.lreturn, 1) := by decide +kernel
theorem dX7_lowestBits_52 : decode cX7_lowestBits 52 = .ok (.lload_n 1, 1) := by decide +kernel
theorem dX7_lowestBits_53 : decode cX7_lowestBits 53 = .ok (.lconst 0, 1) := by decide +kernel
theorem dX7_lowestBits_54 : decode cX7_lowestBits 54 = .ok (.lcmp, 1) := by decide +kernel
theorem dX7_lowestBits_55 : decode cX7_lowestBits 55 = .ok (.ifCond .eq 7, 3) := by decide +kernel
theorem dX7_lowestBits_58 : decode cX7_lowestBits 58 = .ok (.lconst 1, 1) := by decide +kernel
theorem dX7_lowestBits_59 : decode cX7_lowestBits 59 = .ok (.goto 4, 3) := by decide +kernel
theorem dX7_lowestBits_62 : decode cX7_lowestBits 62 = .ok (.lconst 0, 1) := by decide +kernel
theorem dX7_lowestBits_63 : decode cX7_lowestBits 63 = .ok (.lreturn, 1) := by decide +kernel
theorem ok_yX7_lowestBits : yOk yX7_lowestBits 1 := ⟨by decide +kernel, by decide +kernel, by decide +kernel⟩
def fX7_lowestBits (st : St) (i0 : Nat) (a1 : Int64) : Int64 := bnd (gI st (53 + 2 * i0) 2) (fun x1 => if x1 = 0 then (a1.toInt32.toInt8.toInt32.toInt64) else (if x1 = 1 then (a1.toInt32.toInt16.toInt32.toInt64) else (if x1 = 2 then (a1.toInt32.toInt64) else (if x1 = 3 then (a1) else (if lg_cmp a1 (0 : Int64) = 0 then ((0 : Int64)) else ((1 : Int64)))))))
set_option maxHeartbeats 4000000 in
theorem zX7_lowestBits (l : Launch) (X : WX) (st : St) (i0 : Nat) (a1 : Int64) (hi0 : i0 < 6) : CtL l yX7_lowestBits cX7_lowestBits 3 ({ frames := 0, cells := 0, slots := 0, locals := 0 }) EC 65 X [.ref (xq X (53 + 2 * i0)), .long a1] st (fX7_lowestBits st i0 a1) st := by
  generalize hf : fX7_lowestBits st i0 a1 = R
  refine ct_in (own := RX7) (by decide +kernel) rfl (Nat.le_of_ble_eq_true rfl) (fun p e s m below meth c C hr hw ls hl => ?_)
  obtain ⟨hx, hb, hml, hown, hts⟩ := id C.1
  have hl : lv_has ls 3 [(0, .ref (xq X (53 + 2 * i0))), (1, .long a1)] := hl
  unfold fX7_lowestBits at hf
  refine lv_aload_n hx hb dX7_lowestBits_0 rfl (lv_at hl 0 rfl) ?_
  refine w_get (T := TX7) C hw (by have := hi0; omega) 2 kf_X7_22 (EC_sh X hi0 _ _) rfl inA7 (by decide) rfl dX7_lowestBits_1 ?_
  refine lv_topi (fun x1 e2 => ?_)
  replace hf := bnd_nm hf e2
  by_cases c3 : x1 = 0
  · replace hf := ite_t hf c3
    refine lv_tableIn (tgt := 36) hx hb dX7_lowestBits_4 (by rw [c3]; decide) (by rw [c3]; decide) (by rw [c3]; rfl) (by decide) ?_
    refine lv_lload_n hx hb dX7_lowestBits_36 rfl (lv_at hl 1 rfl) ?_
    refine lv_l2i (v := a1.toInt32) hx hb dX7_lowestBits_37 rfl ?_
    refine lv_i2b (v := a1.toInt32.toInt8.toInt32) hx hb dX7_lowestBits_38 rfl ?_
    refine lv_i2l (v := a1.toInt32.toInt8.toInt32.toInt64) hx hb dX7_lowestBits_39 rfl ?_
    exact w_lret C hw hr hf rfl dX7_lowestBits_40
  · replace hf := ite_f hf c3
    by_cases c4 : x1 = 1
    · replace hf := ite_t hf c4
      refine lv_tableIn (tgt := 41) hx hb dX7_lowestBits_4 (by rw [c4]; decide) (by rw [c4]; decide) (by rw [c4]; rfl) (by decide) ?_
      refine lv_lload_n hx hb dX7_lowestBits_41 rfl (lv_at hl 1 rfl) ?_
      refine lv_l2i (v := a1.toInt32) hx hb dX7_lowestBits_42 rfl ?_
      refine lv_i2s (v := a1.toInt32.toInt16.toInt32) hx hb dX7_lowestBits_43 rfl ?_
      refine lv_i2l (v := a1.toInt32.toInt16.toInt32.toInt64) hx hb dX7_lowestBits_44 rfl ?_
      exact w_lret C hw hr hf rfl dX7_lowestBits_45
    · replace hf := ite_f hf c4
      by_cases c5 : x1 = 2
      · replace hf := ite_t hf c5
        refine lv_tableIn (tgt := 46) hx hb dX7_lowestBits_4 (by rw [c5]; decide) (by rw [c5]; decide) (by rw [c5]; rfl) (by decide) ?_
        refine lv_lload_n hx hb dX7_lowestBits_46 rfl (lv_at hl 1 rfl) ?_
        refine lv_l2i (v := a1.toInt32) hx hb dX7_lowestBits_47 rfl ?_
        refine lv_i2l (v := a1.toInt32.toInt64) hx hb dX7_lowestBits_48 rfl ?_
        exact w_lret C hw hr hf rfl dX7_lowestBits_49
      · replace hf := ite_f hf c5
        by_cases c6 : x1 = 3
        · replace hf := ite_t hf c6
          refine lv_tableIn (tgt := 50) hx hb dX7_lowestBits_4 (by rw [c6]; decide) (by rw [c6]; decide) (by rw [c6]; rfl) (by decide) ?_
          refine lv_lload_n hx hb dX7_lowestBits_50 rfl (lv_at hl 1 rfl) ?_
          exact w_lret C hw hr hf rfl dX7_lowestBits_51
        · replace hf := ite_f hf c6
          refine lv_tableOut (tgt := 52) hx hb dX7_lowestBits_4 (by have q0 := ne_toInt (a := 0) c3 (by decide); have q1 := ne_toInt (a := 1) c4 (by decide); have q2 := ne_toInt (a := 2) c5 (by decide); have q3 := ne_toInt (a := 3) c6 (by decide); omega) (by decide) ?_
          refine lv_lload_n hx hb dX7_lowestBits_52 rfl (lv_at hl 1 rfl) ?_
          refine lv_lconst (v := 0) hx hb dX7_lowestBits_53 (by decide) ?_
          refine W.lcmp hx hb dX7_lowestBits_54 ?_
          refine lv_if_eq (tgt := 62) hx hb dX7_lowestBits_55 (by decide) (fun c7 => ?_) (fun c7 => ?_)
          · replace hf := ite_t hf c7
            refine lv_lconst (v := 0) hx hb dX7_lowestBits_62 (by decide) ?_
            exact w_lret C hw hr hf rfl dX7_lowestBits_63
          · replace hf := ite_f hf c7
            refine lv_lconst (v := 1) hx hb dX7_lowestBits_58 (by decide) ?_
            refine lv_goto (tgt := 63) hx hb dX7_lowestBits_59 (by decide) ?_
            exact w_lret C hw hr hf rfl dX7_lowestBits_63
theorem dX7_hasPlaces_0 : decode cX7_hasPlaces 0 = .ok (.iload_n 2, 1) := by decide +kernel
theorem dX7_hasPlaces_1 : decode cX7_hasPlaces 1 = .ok (.ifCond .lt 29, 3) := by decide +kernel
theorem dX7_hasPlaces_4 : decode cX7_hasPlaces 4 = .ok (.iload_n 2, 1) := by decide +kernel
theorem dX7_hasPlaces_5 : decode cX7_hasPlaces 5 = .ok (.aload_n 0, 1) := by decide +kernel
theorem dX7_hasPlaces_6 : decode cX7_hasPlaces 6 = .ok (.getfield 25, 3) := by decide +kernel
theorem dX7_hasPlaces_9 : decode cX7_hasPlaces 9 = .ok (.if_icmp .gt 21, 3) := by decide +kernel
theorem dX7_hasPlaces_12 : decode cX7_hasPlaces 12 = .ok (.iload_n 1, 1) := by decide +kernel
theorem dX7_hasPlaces_13 : decode cX7_hasPlaces 13 = .ok (.ifCond .lt 17, 3) := by decide +kernel
theorem dX7_hasPlaces_16 : decode cX7_hasPlaces 16 = .ok (.iload_n 1, 1) := by decide +kernel
theorem dX7_hasPlaces_17 : decode cX7_hasPlaces 17 = .ok (.aload_n 0, 1) := by decide +kernel
theorem dX7_hasPlaces_18 : decode cX7_hasPlaces 18 = .ok (.getfield 25, 3) := by decide +kernel
theorem dX7_hasPlaces_21 : decode cX7_hasPlaces 21 = .ok (.iload_n 2, 1) := by decide +kernel
theorem dX7_hasPlaces_22 : decode cX7_hasPlaces 22 = .ok (.isub, 1) := by decide +kernel
theorem dX7_hasPlaces_23 : decode cX7_hasPlaces 23 = .ok (.if_icmp .gt 7, 3) := by decide +kernel
theorem dX7_hasPlaces_26 : decode cX7_hasPlaces 26 = .ok (.iconst 1, 1) := by decide +kernel
theorem dX7_hasPlaces_27 : decode cX7_hasPlaces 27 = .ok (.goto 4, 3) := by decide +kernel
theorem dX7_hasPlaces_30 : decode cX7_hasPlaces 30 = .ok (.iconst 0, 1) := by decide +kernel
theorem dX7_hasPlaces_31 : decode cX7_hasPlaces 31 = .ok (.ireturn, 1) := by decide +kernel
theorem ok_yX7_hasPlaces : yOk yX7_hasPlaces 2 := ⟨by decide +kernel, by decide +kernel, by decide +kernel⟩
def fX7_hasPlaces (st : St) (i0 : Nat) (a1 : Int32) (a2 : Int32) : Bool := if a2 < 0 then (false) else (if gI st (53 + 2 * i0) 3 < a2 then (false) else (if a1 < 0 then (false) else (if (gI st (53 + 2 * i0) 3) - a2 < a1 then (false) else (true))))
set_option maxHeartbeats 4000000 in
theorem zX7_hasPlaces (l : Launch) (X : WX) (st : St) (i0 : Nat) (a1 : Int32) (a2 : Int32) (hi0 : i0 < 6) : CtI l yX7_hasPlaces cX7_hasPlaces 3 .boolean ({ frames := 0, cells := 0, slots := 0, locals := 0 }) EC 65 X [.ref (xq X (53 + 2 * i0)), .int a1, .int a2] st (bI (fX7_hasPlaces st i0 a1 a2)) st := by
  generalize hf : fX7_hasPlaces st i0 a1 a2 = R
  refine ct_in (own := RX7) (by decide +kernel) rfl (Nat.le_of_ble_eq_true rfl) (fun p e s m below meth c C hr hw ls hl => ?_)
  obtain ⟨hx, hb, hml, hown, hts⟩ := id C.1
  have hl : lv_has ls 3 [(0, .ref (xq X (53 + 2 * i0))), (1, .int a1), (2, .int a2)] := hl
  unfold fX7_hasPlaces at hf
  refine lv_iload_n hx hb dX7_hasPlaces_0 rfl (lv_at hl 2 rfl) ?_
  refine lv_if_lt (tgt := 30) hx hb dX7_hasPlaces_1 (by decide) (fun c1 => ?_) (fun c1 => ?_)
  · replace hf := ite_t hf c1
    refine lv_iconst (v := 0) hx hb dX7_hasPlaces_30 (by decide) ?_
    exact w_zret (b := false) C hw hr rfl hf rfl dX7_hasPlaces_31
  · replace hf := ite_f hf c1
    refine lv_iload_n hx hb dX7_hasPlaces_4 rfl (lv_at hl 2 rfl) ?_
    refine lv_aload_n hx hb dX7_hasPlaces_5 rfl (lv_at hl 0 rfl) ?_
    refine w_get (T := TX7) C hw (by have := hi0; omega) 3 kf_X7_25 (EC_sh X hi0 _ _) rfl inA7 (by decide) rfl dX7_hasPlaces_6 ?_
    refine lv_icmp_gt (tgt := 30) hx hb dX7_hasPlaces_9 (by decide) (fun c2 => ?_) (fun c2 => ?_)
    · replace hf := ite_t hf c2
      refine lv_iconst (v := 0) hx hb dX7_hasPlaces_30 (by decide) ?_
      exact w_zret (b := false) C hw hr rfl hf rfl dX7_hasPlaces_31
    · replace hf := ite_f hf c2
      refine lv_iload_n hx hb dX7_hasPlaces_12 rfl (lv_at hl 1 rfl) ?_
      refine lv_if_lt (tgt := 30) hx hb dX7_hasPlaces_13 (by decide) (fun c3 => ?_) (fun c3 => ?_)
      · replace hf := ite_t hf c3
        refine lv_iconst (v := 0) hx hb dX7_hasPlaces_30 (by decide) ?_
        exact w_zret (b := false) C hw hr rfl hf rfl dX7_hasPlaces_31
      · replace hf := ite_f hf c3
        refine lv_iload_n hx hb dX7_hasPlaces_16 rfl (lv_at hl 1 rfl) ?_
        refine lv_aload_n hx hb dX7_hasPlaces_17 rfl (lv_at hl 0 rfl) ?_
        refine w_get (T := TX7) C hw (by have := hi0; omega) 3 kf_X7_25 (EC_sh X hi0 _ _) rfl inA7 (by decide) rfl dX7_hasPlaces_18 ?_
        refine lv_iload_n hx hb dX7_hasPlaces_21 rfl (lv_at hl 2 rfl) ?_
        refine lv_isub hx hb dX7_hasPlaces_22 ?_
        refine lv_icmp_gt (tgt := 30) hx hb dX7_hasPlaces_23 (by decide) (fun c4 => ?_) (fun c4 => ?_)
        · replace hf := ite_t hf c4
          refine lv_iconst (v := 0) hx hb dX7_hasPlaces_30 (by decide) ?_
          exact w_zret (b := false) C hw hr rfl hf rfl dX7_hasPlaces_31
        · replace hf := ite_f hf c4
          refine lv_iconst (v := 1) hx hb dX7_hasPlaces_26 (by decide) ?_
          refine lv_goto (tgt := 31) hx hb dX7_hasPlaces_27 (by decide) ?_
          exact w_zret (b := true) C hw hr rfl hf rfl dX7_hasPlaces_31
