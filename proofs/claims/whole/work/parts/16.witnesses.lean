theorem dX8_forget_0 : decode cX8_forget 0 = .ok (.aload_n 0, 1) := by decide +kernel
theorem dX8_forget_1 : decode cX8_forget 1 = .ok (.iconst 0, 1) := by decide +kernel
theorem dX8_forget_2 : decode cX8_forget 2 = .ok (.putfield 22, 3) := by decide +kernel
theorem dX8_forget_5 : decode cX8_forget 5 = .ok (.aload_n 0, 1) := by decide +kernel
theorem dX8_forget_6 : decode cX8_forget 6 = .ok (.bipush (-2), 2) := by decide +kernel
theorem dX8_forget_8 : decode cX8_forget 8 = .ok (.putfield 26, 3) := by decide +kernel
theorem dX8_forget_11 : decode cX8_forget 11 = .ok (.aload_n 0, 1) := by decide +kernel
theorem dX8_forget_12 : decode cX8_forget 12 = .ok (.iconst 0, 1) := by decide +kernel
theorem dX8_forget_13 : decode cX8_forget 13 = .ok (.putfield 29, 3) := by decide +kernel
theorem dX8_forget_16 : decode cX8_forget 16 = .ok (.aload_n 0, 1) := by decide +kernel
theorem dX8_forget_17 : decode cX8_forget 17 = .ok (.bipush (-2), 2) := by decide +kernel
theorem dX8_forget_19 : decode cX8_forget 19 = .ok (.putfield 32, 3) := by decide +kernel
theorem dX8_forget_22 : decode cX8_forget 22 = .ok (.aload_n 0, 1) := by decide +kernel
theorem dX8_forget_23 : decode cX8_forget 23 = .ok (.getfield 15, 3) := by decide +kernel
theorem dX8_forget_26 : decode cX8_forget 26 = .ok (.iconst 0, 1) := by decide +kernel
theorem dX8_forget_27 : decode cX8_forget 27 = .ok (.invokestatic 35, 3) := by decide +kernel
theorem dX8_forget_30 : decode cX8_forget 30 = .ok (.return_, 1) := by decide +kernel
theorem ok_yX8_forget : yOk yX8_forget 0 := ⟨by decide +kernel, by decide +kernel, by decide +kernel⟩
def fX8_forget (st : St) : St := bnd (sI st 36 0 (0 : Int32)) (fun st1 => bnd (sI st1 36 1 (-2 : Int32)) (fun st3 => bnd (sI st3 36 2 (0 : Int32)) (fun st5 => bnd (sI st5 36 3 (-2 : Int32)) (fun st7 => bnd (sIs st7 38 (flI (gI st7 38) 20 (0 : Int32))) (fun st9 => st9)))))
set_option maxHeartbeats 4000000 in
theorem zX8_forget (l : Launch) (X : WX) (st : St)  (R : St) (hf : fX8_forget st = R) : CtV l yX8_forget cX8_forget 1 ({ frames := 1, cells := 0, slots := 0, locals := 23 }) EC 65 X [.ref (xq X 36)] st R := by
  refine ct_in (own := RX8) (by decide +kernel) rfl (Nat.le_of_ble_eq_true rfl) (fun p e s m below meth c C hr hw ls hl => ?_)
  obtain ⟨hx, hb, hml, hown, hts⟩ := id C.1
  have hl : lv_has ls 1 [(0, .ref (xq X 36))] := hl
  unfold fX8_forget at hf
  refine lv_aload_n hx hb dX8_forget_0 rfl (lv_at hl 0 rfl) ?_
  refine lv_iconst (v := 0) hx hb dX8_forget_1 (by decide) ?_
  obtain ⟨st1, es2⟩ : ∃ z : St, z = sI st 36 0 (0 : Int32) := ⟨_, rfl⟩
  replace hf := bnd_nm hf es2
  refine w_puti (T := TX8) C hw (by decide) 0 kf_X8_22 (EC_36 X _ _) rfl inA8 tyX8_ok nmX8 (by decide) rfl rfl (Nat.le_of_ble_eq_true rfl) rfl dX8_forget_2 (fun H locs hw => ?_)
  rw [← es2] at hw
  refine lv_aload_n hx hb dX8_forget_5 rfl (lv_at hl 0 rfl) ?_
  refine lv_bipush (v := -2) hx hb dX8_forget_6 (by decide) ?_
  obtain ⟨st3, es4⟩ : ∃ z : St, z = sI st1 36 1 (-2 : Int32) := ⟨_, rfl⟩
  replace hf := bnd_nm hf es4
  refine w_puti (T := TX8) C hw (by decide) 1 kf_X8_26 (EC_36 X _ _) rfl inA8 tyX8_ok nmX8 (by decide) rfl rfl (Nat.le_of_ble_eq_true rfl) rfl dX8_forget_8 (fun H locs hw => ?_)
  rw [← es4] at hw
  refine lv_aload_n hx hb dX8_forget_11 rfl (lv_at hl 0 rfl) ?_
  refine lv_iconst (v := 0) hx hb dX8_forget_12 (by decide) ?_
  obtain ⟨st5, es6⟩ : ∃ z : St, z = sI st3 36 2 (0 : Int32) := ⟨_, rfl⟩
  replace hf := bnd_nm hf es6
  refine w_puti (T := TX8) C hw (by decide) 2 kf_X8_29 (EC_36 X _ _) rfl inA8 tyX8_ok nmX8 (by decide) rfl rfl (Nat.le_of_ble_eq_true rfl) rfl dX8_forget_13 (fun H locs hw => ?_)
  rw [← es6] at hw
  refine lv_aload_n hx hb dX8_forget_16 rfl (lv_at hl 0 rfl) ?_
  refine lv_bipush (v := -2) hx hb dX8_forget_17 (by decide) ?_
  obtain ⟨st7, es8⟩ : ∃ z : St, z = sI st5 36 3 (-2 : Int32) := ⟨_, rfl⟩
  replace hf := bnd_nm hf es8
  refine w_puti (T := TX8) C hw (by decide) 3 kf_X8_32 (EC_36 X _ _) rfl inA8 tyX8_ok nmX8 (by decide) rfl rfl (Nat.le_of_ble_eq_true rfl) rfl dX8_forget_19 (fun H locs hw => ?_)
  rw [← es8] at hw
  refine lv_aload_n hx hb dX8_forget_22 rfl (lv_at hl 0 rfl) ?_
  refine w_get (T := TX8) C hw (by decide) 6 kf_X8_15 (EC_36 X _ _) rfl inA8 (by decide) rfl dX8_forget_23 ?_
  refine lv_iconst (v := 0) hx hb dX8_forget_26 (by decide) ?_
  obtain ⟨st9, es10⟩ : ∃ z : St, z = sIs st7 38 (flI (gI st7 38) 20 (0 : Int32)) := ⟨_, rfl⟩
  replace hf := bnd_nm hf es10
  refine w_goV hw (w_runS (rest := []) C hw (zfillI _ _ st7 38 20 (0 : Int32) (by decide) (fun f9 => EC_38 X f9 _) (by decide)) km_X8_35 kt_yJ7_fill_53178 kz_J7 kc_J7_fill_53178 ok_yJ7_fill_53178 ⟨Nat.le_of_ble_eq_true rfl, Nat.le_of_ble_eq_true rfl⟩ rfl rfl rfl rfl hl.1 (Nat.le_of_ble_eq_true rfl) dX8_forget_27 ⟨Nat.zero_le _, Nat.zero_le _⟩) (fun H locs hw => ?_)
  rw [← es10] at hw
  exact w_vret C hw hr hf dX8_forget_30
theorem dX8_follow_0 : decode cX8_follow 0 = .ok (.iload_n 3, 1) := by decide +kernel
theorem dX8_follow_1 : decode cX8_follow 1 = .ok (.bipush (-9), 2) := by decide +kernel
theorem dX8_follow_3 : decode cX8_follow 3 = .ok (.bipush 9, 2) := by decide +kernel
theorem dX8_follow_5 : decode cX8_follow 5 = .ok (.invokestatic 61, 3) := by decide +kernel
theorem dX8_follow_8 : decode cX8_follow 8 = .ok (.ifCond .eq 28, 3) := by decide +kernel
theorem dX8_follow_11 : decode cX8_follow 11 = .ok (.iload 4, 2) := by decide +kernel
theorem dX8_follow_13 : decode cX8_follow 13 = .ok (.bipush (-9), 2) := by decide +kernel
theorem dX8_follow_15 : decode cX8_follow 15 = .ok (.bipush 9, 2) := by decide +kernel
theorem dX8_follow_17 : decode cX8_follow 17 = .ok (.invokestatic 61, 3) := by decide +kernel
theorem dX8_follow_20 : decode cX8_follow 20 = .ok (.ifCond .eq 16, 3) := by decide +kernel
theorem dX8_follow_23 : decode cX8_follow 23 = .ok (.iload_n 3, 1) := by decide +kernel
theorem dX8_follow_24 : decode cX8_follow 24 = .ok (.ifCond .ne 8, 3) := by decide +kernel
theorem dX8_follow_27 : decode cX8_follow 27 = .ok (.iload 4, 2) := by decide +kernel
theorem dX8_follow_29 : decode cX8_follow 29 = .ok (.ifCond .eq 7, 3) := by decide +kernel
theorem dX8_follow_32 : decode cX8_follow 32 = .ok (.iconst 1, 1) := by decide +kernel
theorem dX8_follow_33 : decode cX8_follow 33 = .ok (.goto 4, 3) := by decide +kernel
theorem dX8_follow_36 : decode cX8_follow 36 = .ok (.iconst 0, 1) := by decide +kernel
theorem dX8_follow_37 : decode cX8_follow 37 = .ok (.istore 5, 2) := by decide +kernel
theorem dX8_follow_39 : decode cX8_follow 39 = .ok (.iload_n 1, 1) := by decide +kernel
theorem dX8_follow_40 : decode cX8_follow 40 = .ok (.i2l, 1) := by decide +kernel
theorem dX8_follow_41 : decode cX8_follow 41 = .ok (.invokestatic 65, 3) := by decide +kernel
theorem dX8_follow_44 : decode cX8_follow 44 = .ok (.ifCond .eq 16, 3) := by decide +kernel
theorem dX8_follow_47 : decode cX8_follow 47 = .ok (.iload_n 2, 1) := by decide +kernel
theorem dX8_follow_48 : decode cX8_follow 48 = .ok (.i2l, 1) := by decide +kernel
theorem dX8_follow_49 : decode cX8_follow 49 = .ok (.invokestatic 65, 3) := by decide +kernel
theorem dX8_follow_52 : decode cX8_follow 52 = .ok (.ifCond .eq 8, 3) := by decide +kernel
theorem dX8_follow_55 : decode cX8_follow 55 = .ok (.iload 5, 2) := by decide +kernel
theorem dX8_follow_57 : decode cX8_follow 57 = .ok (.ifCond .ne 5, 3) := by decide +kernel
theorem dX8_follow_60 : decode cX8_follow 60 = .ok (.iconst 0, 1) := by decide +kernel
theorem dX8_follow_61 : decode cX8_follow 61 = .ok (.ireturn, 1) := by decide +kernel
theorem dX8_follow_62 : decode cX8_follow 62 = .ok (.iconst 0, 1) := by decide +kernel
theorem dX8_follow_63 : decode cX8_follow 63 = .ok (.istore 6, 2) := by decide +kernel
theorem dX8_follow_65 : decode cX8_follow 65 = .ok (.iload 6, 2) := by decide +kernel
theorem dX8_follow_67 : decode cX8_follow 67 = .ok (.bipush 20, 2) := by decide +kernel
theorem dX8_follow_69 : decode cX8_follow 69 = .ok (.if_icmp .ge 64, 3) := by decide +kernel
theorem dX8_follow_72 : decode cX8_follow 72 = .ok (.iload_n 1, 1) := by decide +kernel
theorem dX8_follow_73 : decode cX8_follow 73 = .ok (.iload 6, 2) := by decide +kernel
theorem dX8_follow_75 : decode cX8_follow 75 = .ok (.iload_n 3, 1) := by decide +kernel
theorem dX8_follow_76 : decode cX8_follow 76 = .ok (.imul, 1) := by decide +kernel
theorem dX8_follow_77 : decode cX8_follow 77 = .ok (.iadd, 1) := by decide +kernel
theorem dX8_follow_78 : decode cX8_follow 78 = .ok (.istore 7, 2) := by decide +kernel
theorem dX8_follow_80 : decode cX8_follow 80 = .ok (.iload_n 2, 1) := by decide +kernel
theorem dX8_follow_81 : decode cX8_follow 81 = .ok (.iload 6, 2) := by decide +kernel
theorem dX8_follow_83 : decode cX8_follow 83 = .ok (.iload 4, 2) := by decide +kernel
theorem dX8_follow_85 : decode cX8_follow 85 = .ok (.imul, 1) := by decide +kernel
theorem dX8_follow_86 : decode cX8_follow 86 = .ok (.iadd, 1) := by decide +kernel
theorem dX8_follow_87 : decode cX8_follow 87 = .ok (.istore 8, 2) := by decide +kernel
theorem dX8_follow_89 : decode cX8_follow 89 = .ok (.iload 7, 2) := by decide +kernel
theorem dX8_follow_91 : decode cX8_follow 91 = .ok (.i2l, 1) := by decide +kernel
theorem dX8_follow_92 : decode cX8_follow 92 = .ok (.invokestatic 65, 3) := by decide +kernel
theorem dX8_follow_95 : decode cX8_follow 95 = .ok (.ifCond .eq 38, 3) := by decide +kernel
theorem dX8_follow_98 : decode cX8_follow 98 = .ok (.iload 8, 2) := by decide +kernel
theorem dX8_follow_100 : decode cX8_follow 100 = .ok (.i2l, 1) := by decide +kernel
theorem dX8_follow_101 : decode cX8_follow 101 = .ok (.invokestatic 65, 3) := by decide +kernel
theorem dX8_follow_104 : decode cX8_follow 104 = .ok (.ifCond .ne 6, 3) := by decide +kernel
theorem dX8_follow_107 : decode cX8_follow 107 = .ok (.goto 26, 3) := by decide +kernel
theorem dX8_follow_110 : decode cX8_follow 110 = .ok (.aload_n 0, 1) := by decide +kernel
theorem dX8_follow_111 : decode cX8_follow 111 = .ok (.getfield 9, 3) := by decide +kernel
theorem dX8_follow_114 : decode cX8_follow 114 = .ok (.bipush 20, 2) := by decide +kernel
theorem dX8_follow_116 : decode cX8_follow 116 = .ok (.iload 8, 2) := by decide +kernel
theorem dX8_follow_118 : decode cX8_follow 118 = .ok (.imul, 1) := by decide +kernel
theorem dX8_follow_119 : decode cX8_follow 119 = .ok (.iload 7, 2) := by decide +kernel
theorem dX8_follow_121 : decode cX8_follow 121 = .ok (.iadd, 1) := by decide +kernel
theorem dX8_follow_122 : decode cX8_follow 122 = .ok (.dup2, 1) := by decide +kernel
theorem dX8_follow_123 : decode cX8_follow 123 = .ok (.iaload, 1) := by decide +kernel
theorem dX8_follow_124 : decode cX8_follow 124 = .ok (.iconst 1, 1) := by decide +kernel
theorem dX8_follow_125 : decode cX8_follow 125 = .ok (.iadd, 1) := by decide +kernel
theorem dX8_follow_126 : decode cX8_follow 126 = .ok (.iastore, 1) := by decide +kernel
theorem dX8_follow_127 : decode cX8_follow 127 = .ok (.iinc 6 1, 3) := by decide +kernel
theorem dX8_follow_130 : decode cX8_follow 130 = .ok (.goto (-65), 3) := by decide +kernel
theorem dX8_follow_133 : decode cX8_follow 133 = .ok (.iconst 1, 1) := by decide +kernel
theorem dX8_follow_134 : decode cX8_follow 134 = .ok (.ireturn, 1) := by decide +kernel
theorem ok_yX8_follow : yOk yX8_follow 4 := ⟨by decide +kernel, by decide +kernel, by decide +kernel⟩
def fX8_follow_65 (n : Nat) : Nat → St → Int32 → Int32 → Int32 → Int32 → Int32 → Option (Bool × St)
  | 0, _, _, _, _, _, _ => none
  | k + 1, st, v1, v2, v3, v4, v6 => if (20 : Int32) ≤ v6 then (some (true, st)) else (bnd (v1 + (v6 * v3)) (fun x9 => bnd (v2 + (v6 * v4)) (fun x11 => if bI (fX11_isSide x9.toInt64) = 0 then (some (true, st)) else (if bI (fX11_isSide x11.toInt64) = 0 then (some (true, st)) else (gd (inB (((20 : Int32) * x11) + x9) 400) (gd (inB (((20 : Int32) * x11) + x9) 400) (bnd (sI st 37 (((20 : Int32) * x11) + x9).toNatClampNeg ((gI st 37 (((20 : Int32) * x11) + x9).toNatClampNeg) + (1 : Int32))) (fun st17 => bnd (v6 + (1 : Int32)) (fun x19 => fX8_follow_65 n k st17 v1 v2 v3 v4 x19)))))))))
set_option maxHeartbeats 4000000 in
theorem tX8_follow_65 {p : Program} {l : Launch} {e : Env} {s : State} {m : MethodId} {args : Array Value} {below : List Frame} {meth : Method} {c : Code} {X : WX} (C : Amb 65 X p s m args meth c cX8_follow 9 RX8) (hr : meth.sig.returnType = some .boolean) {R : Bool × St} {n : Nat} : ∀ (k : Nat) (st : St) (v1 : Int32) (v2 : Int32) (v3 : Int32) (v4 : Int32) (v6 : Int32) (H : Heap) (locs : List Loc) (ls : Array Slot), Wd EC 65 X s.heap st H locs → lv_has ls 9 [(0, .ref (xq X 36)), (1, .int v1), (2, .int v2), (3, .int v3), (4, .int v4), (6, .int v6)] → fX8_follow_65 n k st v1 v2 v3 v4 v6 = some R → W p l e { frames := 1, cells := 0, slots := 0, locals := 22 } s m args below meth c H locs 0 0 (QI EC 65 X (bI R.1) R.2 below args s) (F0 m 65 ls []) := by
  obtain ⟨hx, hb, hml, hown, hts⟩ := id C.1
  intro k
  induction k with
  | zero => intro st v1 v2 v3 v4 v6 H locs ls  hw hl hf; exact absurd (show none = some R from hf) (fun z => by cases z)
  | succ k ih =>
    intro st v1 v2 v3 v4 v6 H locs ls  hw hl hf
    rw [fX8_follow_65] at hf
    refine lv_iload hx hb dX8_follow_65 (lv_at hl 5 rfl) ?_
    refine lv_bipush (v := 20) hx hb dX8_follow_67 (by decide) ?_
    refine lv_icmp_ge (tgt := 133) hx hb dX8_follow_69 (by decide) (fun c8 => ?_) (fun c8 => ?_)
    · replace hf := ite_t hf c8
      refine lv_iconst (v := 1) hx hb dX8_follow_133 (by decide) ?_
      exact w_zret (b := true) C hw hr rfl (so2 hf).1 (so2 hf).2 dX8_follow_134
    · replace hf := ite_f hf c8
      refine lv_iload_n hx hb dX8_follow_72 rfl (lv_at hl 1 rfl) ?_
      refine lv_iload hx hb dX8_follow_73 (lv_at hl 5 rfl) ?_
      refine lv_iload_n hx hb dX8_follow_75 rfl (lv_at hl 3 rfl) ?_
      refine lv_imul hx hb dX8_follow_76 ?_
      refine lv_iadd hx hb dX8_follow_77 ?_
      refine lv_topi (fun x9 e10 => ?_)
      replace hf := bnd_nm hf e10
      refine lv_istore (lv' := [(7, .int x9), (0, .ref (xq X 36)), (1, .int v1), (2, .int v2), (3, .int v3), (4, .int v4), (6, .int v6)]) hx hb dX8_follow_78 hl (by decide) rfl (fun ls hl => ?_)
      refine lv_iload_n hx hb dX8_follow_80 rfl (lv_at hl 3 rfl) ?_
      refine lv_iload hx hb dX8_follow_81 (lv_at hl 6 rfl) ?_
      refine lv_iload hx hb dX8_follow_83 (lv_at hl 5 rfl) ?_
      refine lv_imul hx hb dX8_follow_85 ?_
      refine lv_iadd hx hb dX8_follow_86 ?_
      refine lv_topi (fun x11 e12 => ?_)
      replace hf := bnd_nm hf e12
      refine lv_istore (lv' := [(8, .int x11), (7, .int x9), (0, .ref (xq X 36)), (1, .int v1), (2, .int v2), (3, .int v3), (4, .int v4), (6, .int v6)]) hx hb dX8_follow_87 hl (by decide) rfl (fun ls hl => ?_)
      refine lv_iload hx hb dX8_follow_89 (lv_at hl 1 rfl) ?_
      refine lv_i2l (v := x9.toInt64) hx hb dX8_follow_91 rfl ?_
      refine w_goI hw (w_runSN (rest := []) C hw (zX11_isSide _ _ st x9.toInt64) C.2.2.1.1.2.2 kt_yX11_isSide kz_X11 kc_X11_isSide ok_yX11_isSide ⟨Nat.le_of_ble_eq_true rfl, Nat.le_of_ble_eq_true rfl⟩ rfl rfl rfl rfl hl.1 (Nat.le_of_ble_eq_true rfl) dX8_follow_92 ⟨Nat.zero_le _, Nat.zero_le _⟩) (fun H locs hw => ?_)
      refine lv_if_eq (tgt := 133) hx hb dX8_follow_95 (by decide) (fun c13 => ?_) (fun c13 => ?_)
      · replace hf := ite_t hf c13
        refine lv_iconst (v := 1) hx hb dX8_follow_133 (by decide) ?_
        exact w_zret (b := true) C hw hr rfl (so2 hf).1 (so2 hf).2 dX8_follow_134
      · replace hf := ite_f hf c13
        refine lv_iload hx hb dX8_follow_98 (lv_at hl 0 rfl) ?_
        refine lv_i2l (v := x11.toInt64) hx hb dX8_follow_100 rfl ?_
        refine w_goI hw (w_runSN (rest := []) C hw (zX11_isSide _ _ st x11.toInt64) C.2.2.1.1.2.2 kt_yX11_isSide kz_X11 kc_X11_isSide ok_yX11_isSide ⟨Nat.le_of_ble_eq_true rfl, Nat.le_of_ble_eq_true rfl⟩ rfl rfl rfl rfl hl.1 (Nat.le_of_ble_eq_true rfl) dX8_follow_101 ⟨Nat.zero_le _, Nat.zero_le _⟩) (fun H locs hw => ?_)
        refine lv_if_ne (tgt := 110) hx hb dX8_follow_104 (by decide) (fun c14 => ?_) (fun c14 => ?_)
        · replace hf := ite_f hf c14
          refine lv_aload_n hx hb dX8_follow_110 rfl (lv_at hl 2 rfl) ?_
          refine w_get (T := TX8) C hw (by decide) 5 kf_X8_9 (EC_36 X _ _) rfl inA8 (by decide) rfl dX8_follow_111 ?_
          refine lv_bipush (v := 20) hx hb dX8_follow_114 (by decide) ?_
          refine lv_iload hx hb dX8_follow_116 (lv_at hl 0 rfl) ?_
          refine lv_imul hx hb dX8_follow_118 ?_
          refine lv_iload hx hb dX8_follow_119 (lv_at hl 1 rfl) ?_
          refine lv_iadd hx hb dX8_follow_121 ?_
          refine lv_dup2_11 hx hb dX8_follow_122 rfl rfl ?_
          obtain ⟨h15, hf⟩ := gd_some hf
          refine w_iald C hw (by decide) (EC_37 X _ _) h15 rfl dX8_follow_123 ?_
          refine lv_iconst (v := 1) hx hb dX8_follow_124 (by decide) ?_
          refine lv_iadd hx hb dX8_follow_125 ?_
          obtain ⟨h16, hf⟩ := gd_some hf
          obtain ⟨st17, es18⟩ : ∃ z : St, z = sI st 37 (((20 : Int32) * x11) + x9).toNatClampNeg ((gI st 37 (((20 : Int32) * x11) + x9).toNatClampNeg) + (1 : Int32)) := ⟨_, rfl⟩
          replace hf := bnd_nm hf es18
          refine w_iast C hw (by decide) (fun f9 => EC_37 X f9 _) h16 rfl dX8_follow_126 (fun H locs hw => ?_)
          rw [← es18] at hw
          obtain ⟨x19, e20⟩ : ∃ z : Int32, z = v6 + (1 : Int32) := ⟨_, rfl⟩
          replace hf := bnd_nm hf e20
          refine lv_iinc (v := x19) (lv' := [(6, .int x19), (8, .int x11), (7, .int x9), (0, .ref (xq X 36)), (1, .int v1), (2, .int v2), (3, .int v3), (4, .int v4)]) hx hb dX8_follow_127 hl (k := 7) rfl (by rw [e20]; rfl) (by decide) rfl (fun ls hl => ?_)
          refine lv_goto (tgt := 65) hx hb dX8_follow_130 (by decide) ?_
          exact ih st17 v1 v2 v3 v4 x19 _ _ _ hw (lv_sub hl [3, 4, 5, 6, 7, 0] rfl) hf
        · replace hf := ite_t hf c14
          refine lv_goto (tgt := 133) hx hb dX8_follow_107 (by decide) ?_
          refine lv_iconst (v := 1) hx hb dX8_follow_133 (by decide) ?_
          exact w_zret (b := true) C hw hr rfl (so2 hf).1 (so2 hf).2 dX8_follow_134
def fX8_follow_37 (n : Nat) (st : St) (v1 : Int32) (v2 : Int32) (v3 : Int32) (v4 : Int32) (w0 : Int32) : Option (Bool × St) := if bI (fX11_isSide v1.toInt64) = 0 then (some (false, st)) else (if bI (fX11_isSide v2.toInt64) = 0 then (some (false, st)) else (if w0 = 0 then (some (false, st)) else (fX8_follow_65 n n st v1 v2 v3 v4 (0 : Int32))))
set_option maxHeartbeats 4000000 in
theorem tX8_follow_37 {p : Program} {l : Launch} {e : Env} {s : State} {m : MethodId} {args : Array Value} {below : List Frame} {meth : Method} {c : Code} {X : WX} (C : Amb 65 X p s m args meth c cX8_follow 9 RX8) (hr : meth.sig.returnType = some .boolean) {R : Bool × St} {n : Nat} : ∀ (st : St) (v1 : Int32) (v2 : Int32) (v3 : Int32) (v4 : Int32) (w0 : Int32) (H : Heap) (locs : List Loc) (ls : Array Slot), Wd EC 65 X s.heap st H locs → lv_has ls 9 [(0, .ref (xq X 36)), (1, .int v1), (2, .int v2), (3, .int v3), (4, .int v4)] → fX8_follow_37 n st v1 v2 v3 v4 w0 = some R → W p l e { frames := 1, cells := 0, slots := 0, locals := 22 } s m args below meth c H locs 0 0 (QI EC 65 X (bI R.1) R.2 below args s) (F0 m 37 ls [.int w0]) := by
  obtain ⟨hx, hb, hml, hown, hts⟩ := id C.1
  intro st v1 v2 v3 v4 w0 H locs ls  hw hl hf
  unfold fX8_follow_37 at hf
  refine lv_istore (lv' := [(5, .int w0), (0, .ref (xq X 36)), (1, .int v1), (2, .int v2), (3, .int v3), (4, .int v4)]) hx hb dX8_follow_37 hl (by decide) rfl (fun ls hl => ?_)
  refine lv_iload_n hx hb dX8_follow_39 rfl (lv_at hl 2 rfl) ?_
  refine lv_i2l (v := v1.toInt64) hx hb dX8_follow_40 rfl ?_
  refine w_goI hw (w_runSN (rest := []) C hw (zX11_isSide _ _ st v1.toInt64) C.2.2.1.1.2.2 kt_yX11_isSide kz_X11 kc_X11_isSide ok_yX11_isSide ⟨Nat.le_of_ble_eq_true rfl, Nat.le_of_ble_eq_true rfl⟩ rfl rfl rfl rfl hl.1 (Nat.le_of_ble_eq_true rfl) dX8_follow_41 ⟨Nat.zero_le _, Nat.zero_le _⟩) (fun H locs hw => ?_)
  refine lv_if_eq (tgt := 60) hx hb dX8_follow_44 (by decide) (fun c5 => ?_) (fun c5 => ?_)
  · replace hf := ite_t hf c5
    refine lv_iconst (v := 0) hx hb dX8_follow_60 (by decide) ?_
    exact w_zret (b := false) C hw hr rfl (so2 hf).1 (so2 hf).2 dX8_follow_61
  · replace hf := ite_f hf c5
    refine lv_iload_n hx hb dX8_follow_47 rfl (lv_at hl 3 rfl) ?_
    refine lv_i2l (v := v2.toInt64) hx hb dX8_follow_48 rfl ?_
    refine w_goI hw (w_runSN (rest := []) C hw (zX11_isSide _ _ st v2.toInt64) C.2.2.1.1.2.2 kt_yX11_isSide kz_X11 kc_X11_isSide ok_yX11_isSide ⟨Nat.le_of_ble_eq_true rfl, Nat.le_of_ble_eq_true rfl⟩ rfl rfl rfl rfl hl.1 (Nat.le_of_ble_eq_true rfl) dX8_follow_49 ⟨Nat.zero_le _, Nat.zero_le _⟩) (fun H locs hw => ?_)
    refine lv_if_eq (tgt := 60) hx hb dX8_follow_52 (by decide) (fun c6 => ?_) (fun c6 => ?_)
    · replace hf := ite_t hf c6
      refine lv_iconst (v := 0) hx hb dX8_follow_60 (by decide) ?_
      exact w_zret (b := false) C hw hr rfl (so2 hf).1 (so2 hf).2 dX8_follow_61
    · replace hf := ite_f hf c6
      refine lv_iload hx hb dX8_follow_55 (lv_at hl 0 rfl) ?_
      refine lv_if_ne (tgt := 62) hx hb dX8_follow_57 (by decide) (fun c7 => ?_) (fun c7 => ?_)
      · replace hf := ite_f hf c7
        refine lv_iconst (v := 0) hx hb dX8_follow_62 (by decide) ?_
        refine lv_istore (lv' := [(6, .int (0 : Int32)), (5, .int w0), (0, .ref (xq X 36)), (1, .int v1), (2, .int v2), (3, .int v3), (4, .int v4)]) hx hb dX8_follow_63 hl (by decide) rfl (fun ls hl => ?_)
        exact tX8_follow_65 C hr n st v1 v2 v3 v4 (0 : Int32) _ _ _ hw (lv_sub hl [2, 3, 4, 5, 6, 0] rfl) hf
      · replace hf := ite_t hf c7
        refine lv_iconst (v := 0) hx hb dX8_follow_60 (by decide) ?_
        exact w_zret (b := false) C hw hr rfl (so2 hf).1 (so2 hf).2 dX8_follow_61
def fX8_follow_36 (n : Nat) (st : St) (v1 : Int32) (v2 : Int32) (v3 : Int32) (v4 : Int32) : Option (Bool × St) := fX8_follow_37 n st v1 v2 v3 v4 (0 : Int32)
set_option maxHeartbeats 4000000 in
theorem tX8_follow_36 {p : Program} {l : Launch} {e : Env} {s : State} {m : MethodId} {args : Array Value} {below : List Frame} {meth : Method} {c : Code} {X : WX} (C : Amb 65 X p s m args meth c cX8_follow 9 RX8) (hr : meth.sig.returnType = some .boolean) {R : Bool × St} {n : Nat} : ∀ (st : St) (v1 : Int32) (v2 : Int32) (v3 : Int32) (v4 : Int32) (H : Heap) (locs : List Loc) (ls : Array Slot), Wd EC 65 X s.heap st H locs → lv_has ls 9 [(0, .ref (xq X 36)), (1, .int v1), (2, .int v2), (3, .int v3), (4, .int v4)] → fX8_follow_36 n st v1 v2 v3 v4 = some R → W p l e { frames := 1, cells := 0, slots := 0, locals := 22 } s m args below meth c H locs 0 0 (QI EC 65 X (bI R.1) R.2 below args s) (F0 m 36 ls []) := by
  obtain ⟨hx, hb, hml, hown, hts⟩ := id C.1
  intro st v1 v2 v3 v4 H locs ls  hw hl hf
  unfold fX8_follow_36 at hf
  refine lv_iconst (v := 0) hx hb dX8_follow_36 (by decide) ?_
  exact tX8_follow_37 C hr st v1 v2 v3 v4 (0 : Int32) _ _ _ hw (lv_sub hl [0, 1, 2, 3, 4] rfl) hf
def fX8_follow_32 (n : Nat) (st : St) (v1 : Int32) (v2 : Int32) (v3 : Int32) (v4 : Int32) : Option (Bool × St) := fX8_follow_37 n st v1 v2 v3 v4 (1 : Int32)
set_option maxHeartbeats 4000000 in
theorem tX8_follow_32 {p : Program} {l : Launch} {e : Env} {s : State} {m : MethodId} {args : Array Value} {below : List Frame} {meth : Method} {c : Code} {X : WX} (C : Amb 65 X p s m args meth c cX8_follow 9 RX8) (hr : meth.sig.returnType = some .boolean) {R : Bool × St} {n : Nat} : ∀ (st : St) (v1 : Int32) (v2 : Int32) (v3 : Int32) (v4 : Int32) (H : Heap) (locs : List Loc) (ls : Array Slot), Wd EC 65 X s.heap st H locs → lv_has ls 9 [(0, .ref (xq X 36)), (1, .int v1), (2, .int v2), (3, .int v3), (4, .int v4)] → fX8_follow_32 n st v1 v2 v3 v4 = some R → W p l e { frames := 1, cells := 0, slots := 0, locals := 22 } s m args below meth c H locs 0 0 (QI EC 65 X (bI R.1) R.2 below args s) (F0 m 32 ls []) := by
  obtain ⟨hx, hb, hml, hown, hts⟩ := id C.1
  intro st v1 v2 v3 v4 H locs ls  hw hl hf
  unfold fX8_follow_32 at hf
  refine lv_iconst (v := 1) hx hb dX8_follow_32 (by decide) ?_
  refine lv_goto (tgt := 37) hx hb dX8_follow_33 (by decide) ?_
  exact tX8_follow_37 C hr st v1 v2 v3 v4 (1 : Int32) _ _ _ hw (lv_sub hl [0, 1, 2, 3, 4] rfl) hf
def fX8_follow (n : Nat) (st : St) (a1 : Int32) (a2 : Int32) (a3 : Int32) (a4 : Int32) : Option (Bool × St) := if bI (fX11_isWithin a3 (-9 : Int32) (9 : Int32)) = 0 then (fX8_follow_36 n st a1 a2 a3 a4) else (if bI (fX11_isWithin a4 (-9 : Int32) (9 : Int32)) = 0 then (fX8_follow_36 n st a1 a2 a3 a4) else (if a3 = 0 then (if a4 = 0 then (fX8_follow_36 n st a1 a2 a3 a4) else (fX8_follow_32 n st a1 a2 a3 a4)) else (fX8_follow_32 n st a1 a2 a3 a4)))
set_option maxHeartbeats 4000000 in
theorem zX8_follow (l : Launch) (X : WX) (n : Nat) (st : St) (a1 : Int32) (a2 : Int32) (a3 : Int32) (a4 : Int32) (R : Bool × St) (hf : fX8_follow n st a1 a2 a3 a4 = some R) : CtI l yX8_follow cX8_follow 9 .boolean ({ frames := 1, cells := 0, slots := 0, locals := 22 }) EC 65 X [.ref (xq X 36), .int a1, .int a2, .int a3, .int a4] st (bI R.1) R.2 := by
  refine ct_in (own := RX8) (by decide +kernel) rfl (Nat.le_of_ble_eq_true rfl) (fun p e s m below meth c C hr hw ls hl => ?_)
  obtain ⟨hx, hb, hml, hown, hts⟩ := id C.1
  have hl : lv_has ls 9 [(0, .ref (xq X 36)), (1, .int a1), (2, .int a2), (3, .int a3), (4, .int a4)] := hl
  unfold fX8_follow at hf
  refine lv_iload_n hx hb dX8_follow_0 rfl (lv_at hl 3 rfl) ?_
  refine lv_bipush (v := -9) hx hb dX8_follow_1 (by decide) ?_
  refine lv_bipush (v := 9) hx hb dX8_follow_3 (by decide) ?_
  refine w_goI hw (w_runSN (rest := []) C hw (zX11_isWithin _ _ st a3 (-9 : Int32) (9 : Int32)) C.2.2.1.1.2.1 kt_yX11_isWithin kz_X11 kc_X11_isWithin ok_yX11_isWithin ⟨Nat.le_of_ble_eq_true rfl, Nat.le_of_ble_eq_true rfl⟩ rfl rfl rfl rfl hl.1 (Nat.le_of_ble_eq_true rfl) dX8_follow_5 ⟨Nat.zero_le _, Nat.zero_le _⟩) (fun H locs hw => ?_)
  refine lv_if_eq (tgt := 36) hx hb dX8_follow_8 (by decide) (fun c1 => ?_) (fun c1 => ?_)
  · replace hf := ite_t hf c1
    exact tX8_follow_36 C hr st a1 a2 a3 a4 _ _ _ hw (lv_sub hl [0, 1, 2, 3, 4] rfl) hf
  · replace hf := ite_f hf c1
    refine lv_iload hx hb dX8_follow_11 (lv_at hl 4 rfl) ?_
    refine lv_bipush (v := -9) hx hb dX8_follow_13 (by decide) ?_
    refine lv_bipush (v := 9) hx hb dX8_follow_15 (by decide) ?_
    refine w_goI hw (w_runSN (rest := []) C hw (zX11_isWithin _ _ st a4 (-9 : Int32) (9 : Int32)) C.2.2.1.1.2.1 kt_yX11_isWithin kz_X11 kc_X11_isWithin ok_yX11_isWithin ⟨Nat.le_of_ble_eq_true rfl, Nat.le_of_ble_eq_true rfl⟩ rfl rfl rfl rfl hl.1 (Nat.le_of_ble_eq_true rfl) dX8_follow_17 ⟨Nat.zero_le _, Nat.zero_le _⟩) (fun H locs hw => ?_)
    refine lv_if_eq (tgt := 36) hx hb dX8_follow_20 (by decide) (fun c2 => ?_) (fun c2 => ?_)
    · replace hf := ite_t hf c2
      exact tX8_follow_36 C hr st a1 a2 a3 a4 _ _ _ hw (lv_sub hl [0, 1, 2, 3, 4] rfl) hf
    · replace hf := ite_f hf c2
      refine lv_iload_n hx hb dX8_follow_23 rfl (lv_at hl 3 rfl) ?_
      refine lv_if_ne (tgt := 32) hx hb dX8_follow_24 (by decide) (fun c3 => ?_) (fun c3 => ?_)
      · replace hf := ite_f hf c3
        exact tX8_follow_32 C hr st a1 a2 a3 a4 _ _ _ hw (lv_sub hl [0, 1, 2, 3, 4] rfl) hf
      · replace hf := ite_t hf c3
        refine lv_iload hx hb dX8_follow_27 (lv_at hl 4 rfl) ?_
        refine lv_if_eq (tgt := 36) hx hb dX8_follow_29 (by decide) (fun c4 => ?_) (fun c4 => ?_)
        · replace hf := ite_t hf c4
          exact tX8_follow_36 C hr st a1 a2 a3 a4 _ _ _ hw (lv_sub hl [0, 1, 2, 3, 4] rfl) hf
        · replace hf := ite_f hf c4
          exact tX8_follow_32 C hr st a1 a2 a3 a4 _ _ _ hw (lv_sub hl [0, 1, 2, 3, 4] rfl) hf
theorem dX8_addSeen_0 : decode cX8_addSeen 0 = .ok (.aload_n 0, 1) := by decide +kernel
theorem dX8_addSeen_1 : decode cX8_addSeen 1 = .ok (.getfield 22, 3) := by decide +kernel
theorem dX8_addSeen_4 : decode cX8_addSeen 4 = .ok (.ifCond .ne 8, 3) := by decide +kernel
theorem dX8_addSeen_7 : decode cX8_addSeen 7 = .ok (.aload_n 0, 1) := by decide +kernel
theorem dX8_addSeen_8 : decode cX8_addSeen 8 = .ok (.iload_n 1, 1) := by decide +kernel
theorem dX8_addSeen_9 : decode cX8_addSeen 9 = .ok (.putfield 26, 3) := by decide +kernel
theorem dX8_addSeen_12 : decode cX8_addSeen 12 = .ok (.aload_n 0, 1) := by decide +kernel
theorem dX8_addSeen_13 : decode cX8_addSeen 13 = .ok (.dup, 1) := by decide +kernel
theorem dX8_addSeen_14 : decode cX8_addSeen 14 = .ok (.getfield 22, 3) := by decide +kernel
theorem dX8_addSeen_17 : decode cX8_addSeen 17 = .ok (.iconst 1, 1) := by decide +kernel
theorem dX8_addSeen_18 : decode cX8_addSeen 18 = .ok (.iadd, 1) := by decide +kernel
theorem dX8_addSeen_19 : decode cX8_addSeen 19 = .ok (.putfield 22, 3) := by decide +kernel
theorem dX8_addSeen_22 : decode cX8_addSeen 22 = .ok (.aload_n 0, 1) := by decide +kernel
theorem dX8_addSeen_23 : decode cX8_addSeen 23 = .ok (.getfield 15, 3) := by decide +kernel
theorem dX8_addSeen_26 : decode cX8_addSeen 26 = .ok (.iload_n 1, 1) := by decide +kernel
theorem dX8_addSeen_27 : decode cX8_addSeen 27 = .ok (.bipush 20, 2) := by decide +kernel
theorem dX8_addSeen_29 : decode cX8_addSeen 29 = .ok (.irem, 1) := by decide +kernel
theorem dX8_addSeen_30 : decode cX8_addSeen 30 = .ok (.dup2, 1) := by decide +kernel
theorem dX8_addSeen_31 : decode cX8_addSeen 31 = .ok (.iaload, 1) := by decide +kernel
theorem dX8_addSeen_32 : decode cX8_addSeen 32 = .ok (.iconst 1, 1) := by decide +kernel
theorem dX8_addSeen_33 : decode cX8_addSeen 33 = .ok (.iadd, 1) := by decide +kernel
theorem dX8_addSeen_34 : decode cX8_addSeen 34 = .ok (.iastore, 1) := by decide +kernel
theorem dX8_addSeen_35 : decode cX8_addSeen 35 = .ok (.aload_n 0, 1) := by decide +kernel
theorem dX8_addSeen_36 : decode cX8_addSeen 36 = .ok (.getfield 18, 3) := by decide +kernel
theorem dX8_addSeen_39 : decode cX8_addSeen 39 = .ok (.iload_n 1, 1) := by decide +kernel
theorem dX8_addSeen_40 : decode cX8_addSeen 40 = .ok (.bipush 20, 2) := by decide +kernel
theorem dX8_addSeen_42 : decode cX8_addSeen 42 = .ok (.irem, 1) := by decide +kernel
theorem dX8_addSeen_43 : decode cX8_addSeen 43 = .ok (.iload_n 1, 1) := by decide +kernel
theorem dX8_addSeen_44 : decode cX8_addSeen 44 = .ok (.bipush 20, 2) := by decide +kernel
theorem dX8_addSeen_46 : decode cX8_addSeen 46 = .ok (.idiv, 1) := by decide +kernel
theorem dX8_addSeen_47 : decode cX8_addSeen 47 = .ok (.invokevirtual 69, 3) := by decide +kernel
theorem dX8_addSeen_50 : decode cX8_addSeen 50 = .ok (.istore_n 2, 1) := by decide +kernel
theorem dX8_addSeen_51 : decode cX8_addSeen 51 = .ok (.iload_n 2, 1) := by decide +kernel
theorem dX8_addSeen_52 : decode cX8_addSeen 52 = .ok (.ifCond .lt 15, 3) := by decide +kernel
theorem dX8_addSeen_55 : decode cX8_addSeen 55 = .ok (.aload_n 0, 1) := by decide +kernel
theorem dX8_addSeen_56 : decode cX8_addSeen 56 = .ok (.dup, 1) := by decide +kernel
theorem dX8_addSeen_57 : decode cX8_addSeen 57 = .ok (.getfield 29, 3) := by decide +kernel
theorem dX8_addSeen_60 : decode cX8_addSeen 60 = .ok (.iconst 1, 1) := by decide +kernel
theorem dX8_addSeen_61 : decode cX8_addSeen 61 = .ok (.iload_n 2, 1) := by decide +kernel
theorem dX8_addSeen_62 : decode cX8_addSeen 62 = .ok (.ishl, 1) := by decide +kernel
theorem dX8_addSeen_63 : decode cX8_addSeen 63 = .ok (.ior, 1) := by decide +kernel
theorem dX8_addSeen_64 : decode cX8_addSeen 64 = .ok (.putfield 29, 3) := by decide +kernel
theorem dX8_addSeen_67 : decode cX8_addSeen 67 = .ok (.return_, 1) := by decide +kernel
theorem ok_yX8_addSeen : yOk yX8_addSeen 1 := ⟨by decide +kernel, by decide +kernel, by decide +kernel⟩
def fX8_addSeen_12 (n : Nat) (st : St) (v1 : Int32) : Option (St) := bnd (sI st 36 0 ((gI st 36 0) + (1 : Int32))) (fun st4 => gd (inB (rmI v1 (20 : Int32)) 20) (gd (inB (rmI v1 (20 : Int32)) 20) (bnd (sI st4 38 (rmI v1 (20 : Int32)).toNatClampNeg ((gI st4 38 (rmI v1 (20 : Int32)).toNatClampNeg) + (1 : Int32))) (fun st8 => (fX3_fieldAt n st8 (rmI v1 (20 : Int32)) (v1 / (20 : Int32))).bind (fun r10 => if r10 < 0 then (some st8) else (bnd (sI st8 36 2 ((gI st8 36 2) ||| ((1 : Int32) <<< (r10 &&& 31)))) (fun st13 => some st13)))))))
set_option maxHeartbeats 4000000 in
theorem tX8_addSeen_12 {p : Program} {l : Launch} {e : Env} {s : State} {m : MethodId} {args : Array Value} {below : List Frame} {meth : Method} {c : Code} {X : WX} (C : Amb 65 X p s m args meth c cX8_addSeen 3 RX8) (hr : meth.sig.returnType = none) {R : St} {n : Nat} : ∀ (st : St) (v1 : Int32) (H : Heap) (locs : List Loc) (ls : Array Slot), Wd EC 65 X s.heap st H locs → lv_has ls 3 [(0, .ref (xq X 36)), (1, .int v1)] → fX8_addSeen_12 n st v1 = some R → W p l e { frames := 1, cells := 0, slots := 0, locals := 25 } s m args below meth c H locs 0 0 (QV EC 65 X R below args s) (F0 m 12 ls []) := by
  obtain ⟨hx, hb, hml, hown, hts⟩ := id C.1
  intro st v1 H locs ls  hw hl hf
  unfold fX8_addSeen_12 at hf
  refine lv_aload_n hx hb dX8_addSeen_12 rfl (lv_at hl 0 rfl) ?_
  refine lv_dup hx hb dX8_addSeen_13 rfl ?_
  refine w_get (T := TX8) C hw (by decide) 0 kf_X8_22 (EC_36 X _ _) rfl inA8 (by decide) rfl dX8_addSeen_14 ?_
  refine lv_iconst (v := 1) hx hb dX8_addSeen_17 (by decide) ?_
  refine lv_iadd hx hb dX8_addSeen_18 ?_
  obtain ⟨st4, es5⟩ : ∃ z : St, z = sI st 36 0 ((gI st 36 0) + (1 : Int32)) := ⟨_, rfl⟩
  replace hf := bnd_nm hf es5
  refine w_puti (T := TX8) C hw (by decide) 0 kf_X8_22 (EC_36 X _ _) rfl inA8 tyX8_ok nmX8 (by decide) rfl rfl (Nat.le_of_ble_eq_true rfl) rfl dX8_addSeen_19 (fun H locs hw => ?_)
  rw [← es5] at hw
  refine lv_aload_n hx hb dX8_addSeen_22 rfl (lv_at hl 0 rfl) ?_
  refine w_get (T := TX8) C hw (by decide) 6 kf_X8_15 (EC_36 X _ _) rfl inA8 (by decide) rfl dX8_addSeen_23 ?_
  refine lv_iload_n hx hb dX8_addSeen_26 rfl (lv_at hl 1 rfl) ?_
  refine lv_bipush (v := 20) hx hb dX8_addSeen_27 (by decide) ?_
  refine w_irem C (by decide) dX8_addSeen_29 ?_
  refine lv_dup2_11 hx hb dX8_addSeen_30 rfl rfl ?_
  obtain ⟨h6, hf⟩ := gd_some hf
  refine w_iald C hw (by decide) (EC_38 X _ _) h6 rfl dX8_addSeen_31 ?_
  refine lv_iconst (v := 1) hx hb dX8_addSeen_32 (by decide) ?_
  refine lv_iadd hx hb dX8_addSeen_33 ?_
  obtain ⟨h7, hf⟩ := gd_some hf
  obtain ⟨st8, es9⟩ : ∃ z : St, z = sI st4 38 (rmI v1 (20 : Int32)).toNatClampNeg ((gI st4 38 (rmI v1 (20 : Int32)).toNatClampNeg) + (1 : Int32)) := ⟨_, rfl⟩
  replace hf := bnd_nm hf es9
  refine w_iast C hw (by decide) (fun f9 => EC_38 X f9 _) h7 rfl dX8_addSeen_34 (fun H locs hw => ?_)
  rw [← es9] at hw
  refine lv_aload_n hx hb dX8_addSeen_35 rfl (lv_at hl 0 rfl) ?_
  refine w_get (T := TX8) C hw (by decide) 4 kf_X8_18 (EC_36 X _ _) rfl inA8 (by decide) rfl dX8_addSeen_36 ?_
  refine lv_iload_n hx hb dX8_addSeen_39 rfl (lv_at hl 1 rfl) ?_
  refine lv_bipush (v := 20) hx hb dX8_addSeen_40 (by decide) ?_
  refine w_irem C (by decide) dX8_addSeen_42 ?_
  refine lv_iload_n hx hb dX8_addSeen_43 rfl (lv_at hl 1 rfl) ?_
  refine lv_bipush (v := 20) hx hb dX8_addSeen_44 (by decide) ?_
  refine lv_idiv hx hb dX8_addSeen_46 (by decide) ?_
  obtain ⟨r10, k11, hf⟩ := bd_some hf
  refine w_goI hw (w_runV (rest := []) C hw (zX3_fieldAt _ _ n st8 (rmI v1 (20 : Int32)) (v1 / (20 : Int32)) r10 k11) (by decide) (EC_1 X _ _) rfl km_X8_69 ki_yX3_fieldAt kv_X3_fieldAt kz_X3 kc_X3_fieldAt rfl ok_yX3_fieldAt ⟨Nat.le_of_ble_eq_true rfl, Nat.le_of_ble_eq_true rfl⟩ rfl rfl rfl rfl hl.1 (Nat.le_of_ble_eq_true rfl) dX8_addSeen_47 ⟨Nat.zero_le _, Nat.zero_le _⟩) (fun H locs hw => ?_)
  refine lv_istore_n (lv' := [(2, .int r10), (0, .ref (xq X 36)), (1, .int v1)]) hx hb dX8_addSeen_50 rfl hl (by decide) rfl (fun ls hl => ?_)
  refine lv_iload_n hx hb dX8_addSeen_51 rfl (lv_at hl 0 rfl) ?_
  refine lv_if_lt (tgt := 67) hx hb dX8_addSeen_52 (by decide) (fun c12 => ?_) (fun c12 => ?_)
  · replace hf := ite_t hf c12
    exact w_vret C hw hr (Option.some.inj hf) dX8_addSeen_67
  · replace hf := ite_f hf c12
    refine lv_aload_n hx hb dX8_addSeen_55 rfl (lv_at hl 1 rfl) ?_
    refine lv_dup hx hb dX8_addSeen_56 rfl ?_
    refine w_get (T := TX8) C hw (by decide) 2 kf_X8_29 (EC_36 X _ _) rfl inA8 (by decide) rfl dX8_addSeen_57 ?_
    refine lv_iconst (v := 1) hx hb dX8_addSeen_60 (by decide) ?_
    refine lv_iload_n hx hb dX8_addSeen_61 rfl (lv_at hl 0 rfl) ?_
    refine lv_ishl hx hb dX8_addSeen_62 ?_
    refine lv_ior hx hb dX8_addSeen_63 ?_
    obtain ⟨st13, es14⟩ : ∃ z : St, z = sI st8 36 2 ((gI st8 36 2) ||| ((1 : Int32) <<< (r10 &&& 31))) := ⟨_, rfl⟩
    replace hf := bnd_nm hf es14
    refine w_puti (T := TX8) C hw (by decide) 2 kf_X8_29 (EC_36 X _ _) rfl inA8 tyX8_ok nmX8 (by decide) rfl rfl (Nat.le_of_ble_eq_true rfl) rfl dX8_addSeen_64 (fun H locs hw => ?_)
    rw [← es14] at hw
    exact w_vret C hw hr (Option.some.inj hf) dX8_addSeen_67
def fX8_addSeen (n : Nat) (st : St) (a1 : Int32) : Option (St) := if gI st 36 0 = 0 then (bnd (sI st 36 1 a1) (fun st2 => fX8_addSeen_12 n st2 a1)) else (fX8_addSeen_12 n st a1)
set_option maxHeartbeats 4000000 in
theorem zX8_addSeen (l : Launch) (X : WX) (n : Nat) (st : St) (a1 : Int32) (R : St) (hf : fX8_addSeen n st a1 = some R) : CtV l yX8_addSeen cX8_addSeen 3 ({ frames := 1, cells := 0, slots := 0, locals := 25 }) EC 65 X [.ref (xq X 36), .int a1] st R := by
  refine ct_in (own := RX8) (by decide +kernel) rfl (Nat.le_of_ble_eq_true rfl) (fun p e s m below meth c C hr hw ls hl => ?_)
  obtain ⟨hx, hb, hml, hown, hts⟩ := id C.1
  have hl : lv_has ls 3 [(0, .ref (xq X 36)), (1, .int a1)] := hl
  unfold fX8_addSeen at hf
  refine lv_aload_n hx hb dX8_addSeen_0 rfl (lv_at hl 0 rfl) ?_
  refine w_get (T := TX8) C hw (by decide) 0 kf_X8_22 (EC_36 X _ _) rfl inA8 (by decide) rfl dX8_addSeen_1 ?_
  refine lv_if_ne (tgt := 12) hx hb dX8_addSeen_4 (by decide) (fun c1 => ?_) (fun c1 => ?_)
  · replace hf := ite_f hf c1
    exact tX8_addSeen_12 C hr st a1 _ _ _ hw (lv_sub hl [0, 1] rfl) hf
  · replace hf := ite_t hf c1
    refine lv_aload_n hx hb dX8_addSeen_7 rfl (lv_at hl 0 rfl) ?_
    refine lv_iload_n hx hb dX8_addSeen_8 rfl (lv_at hl 1 rfl) ?_
    obtain ⟨st2, es3⟩ : ∃ z : St, z = sI st 36 1 a1 := ⟨_, rfl⟩
    replace hf := bnd_nm hf es3
    refine w_puti (T := TX8) C hw (by decide) 1 kf_X8_26 (EC_36 X _ _) rfl inA8 tyX8_ok nmX8 (by decide) rfl rfl (Nat.le_of_ble_eq_true rfl) rfl dX8_addSeen_9 (fun H locs hw => ?_)
    rw [← es3] at hw
    exact tX8_addSeen_12 C hr st2 a1 _ _ _ hw (lv_sub hl [0, 1] rfl) hf
theorem dX8_look_0 : decode cX8_look 0 = .ok (.aload_n 0, 1) := by decide +kernel
theorem dX8_look_1 : decode cX8_look 1 = .ok (.invokevirtual 41, 3) := by decide +kernel
theorem dX8_look_4 : decode cX8_look 4 = .ok (.aload_n 1, 1) := by decide +kernel
theorem dX8_look_5 : decode cX8_look 5 = .ok (.getfield 44, 3) := by decide +kernel
theorem dX8_look_8 : decode cX8_look 8 = .ok (.iconst 4, 1) := by decide +kernel
theorem dX8_look_9 : decode cX8_look 9 = .ok (.irem, 1) := by decide +kernel
theorem dX8_look_10 : decode cX8_look 10 = .ok (.ifCond .eq 4, 3) := by decide +kernel
theorem dX8_look_13 : decode cX8_look 13 = .ok (.return_, 1) := by decide +kernel
theorem dX8_look_14 : decode cX8_look 14 = .ok (.aload_n 0, 1) := by decide +kernel
theorem dX8_look_15 : decode cX8_look 15 = .ok (.getfield 9, 3) := by decide +kernel
theorem dX8_look_18 : decode cX8_look 18 = .ok (.iconst 0, 1) := by decide +kernel
theorem dX8_look_19 : decode cX8_look 19 = .ok (.invokestatic 35, 3) := by decide +kernel
theorem dX8_look_22 : decode cX8_look 22 = .ok (.iconst 0, 1) := by decide +kernel
theorem dX8_look_23 : decode cX8_look 23 = .ok (.istore_n 2, 1) := by decide +kernel
theorem dX8_look_24 : decode cX8_look 24 = .ok (.iload_n 2, 1) := by decide +kernel
theorem dX8_look_25 : decode cX8_look 25 = .ok (.aload_n 1, 1) := by decide +kernel
theorem dX8_look_26 : decode cX8_look 26 = .ok (.getfield 44, 3) := by decide +kernel
theorem dX8_look_29 : decode cX8_look 29 = .ok (.iconst 4, 1) := by decide +kernel
theorem dX8_look_30 : decode cX8_look 30 = .ok (.isub, 1) := by decide +kernel
theorem dX8_look_31 : decode cX8_look 31 = .ok (.if_icmp .gt 51, 3) := by decide +kernel
theorem dX8_look_34 : decode cX8_look 34 = .ok (.aload_n 0, 1) := by decide +kernel
theorem dX8_look_35 : decode cX8_look 35 = .ok (.aload_n 1, 1) := by decide +kernel
theorem dX8_look_36 : decode cX8_look 36 = .ok (.getfield 49, 3) := by decide +kernel
theorem dX8_look_39 : decode cX8_look 39 = .ok (.iload_n 2, 1) := by decide +kernel
theorem dX8_look_40 : decode cX8_look 40 = .ok (.laload, 1) := by decide +kernel
theorem dX8_look_41 : decode cX8_look 41 = .ok (.l2i, 1) := by decide +kernel
theorem dX8_look_42 : decode cX8_look 42 = .ok (.aload_n 1, 1) := by decide +kernel
theorem dX8_look_43 : decode cX8_look 43 = .ok (.getfield 49, 3) := by decide +kernel
theorem dX8_look_46 : decode cX8_look 46 = .ok (.iload_n 2, 1) := by decide +kernel
theorem dX8_look_47 : decode cX8_look 47 = .ok (.iconst 1, 1) := by decide +kernel
theorem dX8_look_48 : decode cX8_look 48 = .ok (.iadd, 1) := by decide +kernel
theorem dX8_look_49 : decode cX8_look 49 = .ok (.laload, 1) := by decide +kernel
theorem dX8_look_50 : decode cX8_look 50 = .ok (.l2i, 1) := by decide +kernel
theorem dX8_look_51 : decode cX8_look 51 = .ok (.aload_n 1, 1) := by decide +kernel
theorem dX8_look_52 : decode cX8_look 52 = .ok (.getfield 49, 3) := by decide +kernel
theorem dX8_look_55 : decode cX8_look 55 = .ok (.iload_n 2, 1) := by decide +kernel
theorem dX8_look_56 : decode cX8_look 56 = .ok (.iconst 2, 1) := by decide +kernel
theorem dX8_look_57 : decode cX8_look 57 = .ok (.iadd, 1) := by decide +kernel
theorem dX8_look_58 : decode cX8_look 58 = .ok (.laload, 1) := by decide +kernel
theorem dX8_look_59 : decode cX8_look 59 = .ok (.l2i, 1) := by decide +kernel
theorem dX8_look_60 : decode cX8_look 60 = .ok (.aload_n 1, 1) := by decide +kernel
theorem dX8_look_61 : decode cX8_look 61 = .ok (.getfield 49, 3) := by decide +kernel
theorem dX8_look_64 : decode cX8_look 64 = .ok (.iload_n 2, 1) := by decide +kernel
theorem dX8_look_65 : decode cX8_look 65 = .ok (.iconst 3, 1) := by decide +kernel
theorem dX8_look_66 : decode cX8_look 66 = .ok (.iadd, 1) := by decide +kernel
theorem dX8_look_67 : decode cX8_look 67 = .ok (.laload, 1) := by decide +kernel
theorem dX8_look_68 : decode cX8_look 68 = .ok (.l2i, 1) := by decide +kernel
theorem dX8_look_69 : decode cX8_look 69 = .ok (.invokevirtual 53, 3) := by decide +kernel
theorem dX8_look_72 : decode cX8_look 72 = .ok (.ifCond .ne 4, 3) := by decide +kernel
theorem dX8_look_75 : decode cX8_look 75 = .ok (.return_, 1) := by decide +kernel
theorem dX8_look_76 : decode cX8_look 76 = .ok (.iinc 2 4, 3) := by decide +kernel
theorem dX8_look_79 : decode cX8_look 79 = .ok (.goto (-55), 3) := by decide +kernel
theorem dX8_look_82 : decode cX8_look 82 = .ok (.iconst 0, 1) := by decide +kernel
theorem dX8_look_83 : decode cX8_look 83 = .ok (.istore_n 2, 1) := by decide +kernel
theorem dX8_look_84 : decode cX8_look 84 = .ok (.iload_n 2, 1) := by decide +kernel
theorem dX8_look_85 : decode cX8_look 85 = .ok (.sipush 400, 3) := by decide +kernel
theorem dX8_look_88 : decode cX8_look 88 = .ok (.if_icmp .ge 29, 3) := by decide +kernel
theorem dX8_look_91 : decode cX8_look 91 = .ok (.aload_n 0, 1) := by decide +kernel
theorem dX8_look_92 : decode cX8_look 92 = .ok (.getfield 9, 3) := by decide +kernel
theorem dX8_look_95 : decode cX8_look 95 = .ok (.iload_n 2, 1) := by decide +kernel
theorem dX8_look_96 : decode cX8_look 96 = .ok (.iaload, 1) := by decide +kernel
theorem dX8_look_97 : decode cX8_look 97 = .ok (.aload_n 1, 1) := by decide +kernel
theorem dX8_look_98 : decode cX8_look 98 = .ok (.getfield 44, 3) := by decide +kernel
theorem dX8_look_101 : decode cX8_look 101 = .ok (.iconst 4, 1) := by decide +kernel
theorem dX8_look_102 : decode cX8_look 102 = .ok (.idiv, 1) := by decide +kernel
theorem dX8_look_103 : decode cX8_look 103 = .ok (.if_icmp .ne 8, 3) := by decide +kernel
theorem dX8_look_106 : decode cX8_look 106 = .ok (.aload_n 0, 1) := by decide +kernel
theorem dX8_look_107 : decode cX8_look 107 = .ok (.iload_n 2, 1) := by decide +kernel
theorem dX8_look_108 : decode cX8_look 108 = .ok (.invokevirtual 57, 3) := by decide +kernel
theorem dX8_look_111 : decode cX8_look 111 = .ok (.iinc 2 1, 3) := by decide +kernel
theorem dX8_look_114 : decode cX8_look 114 = .ok (.goto (-30), 3) := by decide +kernel
theorem dX8_look_117 : decode cX8_look 117 = .ok (.return_, 1) := by decide +kernel
theorem ok_yX8_look : yOk yX8_look 1 := ⟨by decide +kernel, by decide +kernel, by decide +kernel⟩
def fX8_look_84 (n : Nat) : Nat → St → Nat → Int32 → Option (St)
  | 0, _, _, _ => none
  | k + 1, st, j1, v2 => if (400 : Int32) ≤ v2 then (some st) else (gd (inB v2 400) (if gI st 37 v2.toNatClampNeg = (gI st (53 + 2 * j1) 3) / (4 : Int32) then ((fX8_addSeen n st v2).bind (fun r21 => bnd (v2 + (1 : Int32)) (fun x23 => fX8_look_84 n k r21 j1 x23))) else (bnd (v2 + (1 : Int32)) (fun x19 => fX8_look_84 n k st j1 x19))))
set_option maxHeartbeats 4000000 in
theorem tX8_look_84 {p : Program} {l : Launch} {e : Env} {s : State} {m : MethodId} {args : Array Value} {below : List Frame} {meth : Method} {c : Code} {X : WX} (C : Amb 65 X p s m args meth c cX8_look 3 RX8) (hr : meth.sig.returnType = none) {R : St} {n : Nat} : ∀ (k : Nat) (st : St) (j1 : Nat) (v2 : Int32) (H : Heap) (locs : List Loc) (ls : Array Slot), j1 < 6 → Wd EC 65 X s.heap st H locs → lv_has ls 3 [(0, .ref (xq X 36)), (1, .ref (xq X (53 + 2 * j1))), (2, .int v2)] → fX8_look_84 n k st j1 v2 = some R → W p l e { frames := 2, cells := 0, slots := 0, locals := 50 } s m args below meth c H locs 0 0 (QV EC 65 X R below args s) (F0 m 84 ls []) := by
  obtain ⟨hx, hb, hml, hown, hts⟩ := id C.1
  intro k
  induction k with
  | zero => intro st j1 v2 H locs ls hj1 hw hl hf; exact absurd (show none = some R from hf) (fun z => by cases z)
  | succ k ih =>
    intro st j1 v2 H locs ls hj1 hw hl hf
    rw [fX8_look_84] at hf
    refine lv_iload_n hx hb dX8_look_84 rfl (lv_at hl 2 rfl) ?_
    refine lv_sipush (v := 400) hx hb dX8_look_85 (by decide) ?_
    refine lv_icmp_ge (tgt := 117) hx hb dX8_look_88 (by decide) (fun c16 => ?_) (fun c16 => ?_)
    · replace hf := ite_t hf c16
      exact w_vret C hw hr (Option.some.inj hf) dX8_look_117
    · replace hf := ite_f hf c16
      refine lv_aload_n hx hb dX8_look_91 rfl (lv_at hl 0 rfl) ?_
      refine w_get (T := TX8) C hw (by decide) 5 kf_X8_9 (EC_36 X _ _) rfl inA8 (by decide) rfl dX8_look_92 ?_
      refine lv_iload_n hx hb dX8_look_95 rfl (lv_at hl 2 rfl) ?_
      obtain ⟨h17, hf⟩ := gd_some hf
      refine w_iald C hw (by decide) (EC_37 X _ _) h17 rfl dX8_look_96 ?_
      refine lv_aload_n hx hb dX8_look_97 rfl (lv_at hl 1 rfl) ?_
      refine w_get (T := TX7) C hw (by have := hj1; omega) 3 kf_X8_44 (EC_sh X hj1 _ _) rfl inA7 (by decide) rfl dX8_look_98 ?_
      refine lv_iconst (v := 4) hx hb dX8_look_101 (by decide) ?_
      refine lv_idiv hx hb dX8_look_102 (by decide) ?_
      refine lv_icmp_ne (tgt := 111) hx hb dX8_look_103 (by decide) (fun c18 => ?_) (fun c18 => ?_)
      · replace hf := ite_f hf c18
        obtain ⟨x19, e20⟩ : ∃ z : Int32, z = v2 + (1 : Int32) := ⟨_, rfl⟩
        replace hf := bnd_nm hf e20
        refine lv_iinc (v := x19) (lv' := [(2, .int x19), (0, .ref (xq X 36)), (1, .ref (xq X (53 + 2 * j1)))]) hx hb dX8_look_111 hl (k := 2) rfl (by rw [e20]; rfl) (by decide) rfl (fun ls hl => ?_)
        refine lv_goto (tgt := 84) hx hb dX8_look_114 (by decide) ?_
        exact ih st j1 x19 _ _ _ hj1 hw (lv_sub hl [1, 2, 0] rfl) hf
      · replace hf := ite_t hf c18
        refine lv_aload_n hx hb dX8_look_106 rfl (lv_at hl 0 rfl) ?_
        refine lv_iload_n hx hb dX8_look_107 rfl (lv_at hl 2 rfl) ?_
        obtain ⟨r21, k22, hf⟩ := bd_some hf
        refine w_goV hw (w_runV (rest := []) C hw (zX8_addSeen _ _ n st v2 r21 k22) (by decide) (EC_36 X _ _) rfl km_X8_57 ki_yX8_addSeen kv_X8_addSeen kz_X8 kc_X8_addSeen rfl ok_yX8_addSeen ⟨Nat.le_of_ble_eq_true rfl, Nat.le_of_ble_eq_true rfl⟩ rfl rfl rfl rfl hl.1 (Nat.le_of_ble_eq_true rfl) dX8_look_108 ⟨Nat.zero_le _, Nat.zero_le _⟩) (fun H locs hw => ?_)
        obtain ⟨x23, e24⟩ : ∃ z : Int32, z = v2 + (1 : Int32) := ⟨_, rfl⟩
        replace hf := bnd_nm hf e24
        refine lv_iinc (v := x23) (lv' := [(2, .int x23), (0, .ref (xq X 36)), (1, .ref (xq X (53 + 2 * j1)))]) hx hb dX8_look_111 hl (k := 2) rfl (by rw [e24]; rfl) (by decide) rfl (fun ls hl => ?_)
        refine lv_goto (tgt := 84) hx hb dX8_look_114 (by decide) ?_
        exact ih r21 j1 x23 _ _ _ hj1 hw (lv_sub hl [1, 2, 0] rfl) hf
def fX8_look_24 (n : Nat) : Nat → St → Nat → Int32 → Option (St)
  | 0, _, _, _ => none
  | k + 1, st, j1, v2 => if (gI st (53 + 2 * j1) 3) - (4 : Int32) < v2 then (fX8_look_84 n n st j1 (0 : Int32)) else (gd (inB v2 60) (gd (inB (v2 + (1 : Int32)) 60) (gd (inB (v2 + (2 : Int32)) 60) (gd (inB (v2 + (3 : Int32)) 60) ((fX8_follow n st ((gL st (54 + 2 * j1) v2.toNatClampNeg).toInt32) ((gL st (54 + 2 * j1) (v2 + (1 : Int32)).toNatClampNeg).toInt32) ((gL st (54 + 2 * j1) (v2 + (2 : Int32)).toNatClampNeg).toInt32) ((gL st (54 + 2 * j1) (v2 + (3 : Int32)).toNatClampNeg).toInt32)).bind (fun r11 => if bI r11.1 = 0 then (some r11.2) else (bnd (v2 + (4 : Int32)) (fun x14 => fX8_look_24 n k r11.2 j1 x14))))))))
set_option maxHeartbeats 4000000 in
theorem tX8_look_24 {p : Program} {l : Launch} {e : Env} {s : State} {m : MethodId} {args : Array Value} {below : List Frame} {meth : Method} {c : Code} {X : WX} (C : Amb 65 X p s m args meth c cX8_look 3 RX8) (hr : meth.sig.returnType = none) {R : St} {n : Nat} : ∀ (k : Nat) (st : St) (j1 : Nat) (v2 : Int32) (H : Heap) (locs : List Loc) (ls : Array Slot), j1 < 6 → Wd EC 65 X s.heap st H locs → lv_has ls 3 [(0, .ref (xq X 36)), (1, .ref (xq X (53 + 2 * j1))), (2, .int v2)] → fX8_look_24 n k st j1 v2 = some R → W p l e { frames := 2, cells := 0, slots := 0, locals := 50 } s m args below meth c H locs 0 0 (QV EC 65 X R below args s) (F0 m 24 ls []) := by
  obtain ⟨hx, hb, hml, hown, hts⟩ := id C.1
  intro k
  induction k with
  | zero => intro st j1 v2 H locs ls hj1 hw hl hf; exact absurd (show none = some R from hf) (fun z => by cases z)
  | succ k ih =>
    intro st j1 v2 H locs ls hj1 hw hl hf
    rw [fX8_look_24] at hf
    refine lv_iload_n hx hb dX8_look_24 rfl (lv_at hl 2 rfl) ?_
    refine lv_aload_n hx hb dX8_look_25 rfl (lv_at hl 1 rfl) ?_
    refine w_get (T := TX7) C hw (by have := hj1; omega) 3 kf_X8_44 (EC_sh X hj1 _ _) rfl inA7 (by decide) rfl dX8_look_26 ?_
    refine lv_iconst (v := 4) hx hb dX8_look_29 (by decide) ?_
    refine lv_isub hx hb dX8_look_30 ?_
    refine lv_icmp_gt (tgt := 82) hx hb dX8_look_31 (by decide) (fun c6 => ?_) (fun c6 => ?_)
    · replace hf := ite_t hf c6
      refine lv_iconst (v := 0) hx hb dX8_look_82 (by decide) ?_
      refine lv_istore_n (lv' := [(2, .int (0 : Int32)), (0, .ref (xq X 36)), (1, .ref (xq X (53 + 2 * j1)))]) hx hb dX8_look_83 rfl hl (by decide) rfl (fun ls hl => ?_)
      exact tX8_look_84 C hr n st j1 (0 : Int32) _ _ _ hj1 hw (lv_sub hl [1, 2, 0] rfl) hf
    · replace hf := ite_f hf c6
      refine lv_aload_n hx hb dX8_look_34 rfl (lv_at hl 0 rfl) ?_
      refine lv_aload_n hx hb dX8_look_35 rfl (lv_at hl 1 rfl) ?_
      refine w_get (T := TX7) C hw (by have := hj1; omega) 4 kf_X8_49 (EC_sh X hj1 _ _) rfl inA7 (by decide) rfl dX8_look_36 ?_
      refine lv_iload_n hx hb dX8_look_39 rfl (lv_at hl 2 rfl) ?_
      obtain ⟨h7, hf⟩ := gd_some hf
      refine w_lald C hw (by have := hj1; omega) (EC_el X hj1 _ _) h7 rfl dX8_look_40 ?_
      refine lv_l2i (v := (gL st (54 + 2 * j1) v2.toNatClampNeg).toInt32) hx hb dX8_look_41 rfl ?_
      refine lv_aload_n hx hb dX8_look_42 rfl (lv_at hl 1 rfl) ?_
      refine w_get (T := TX7) C hw (by have := hj1; omega) 4 kf_X8_49 (EC_sh X hj1 _ _) rfl inA7 (by decide) rfl dX8_look_43 ?_
      refine lv_iload_n hx hb dX8_look_46 rfl (lv_at hl 2 rfl) ?_
      refine lv_iconst (v := 1) hx hb dX8_look_47 (by decide) ?_
      refine lv_iadd hx hb dX8_look_48 ?_
      obtain ⟨h8, hf⟩ := gd_some hf
      refine w_lald C hw (by have := hj1; omega) (EC_el X hj1 _ _) h8 rfl dX8_look_49 ?_
      refine lv_l2i (v := (gL st (54 + 2 * j1) (v2 + (1 : Int32)).toNatClampNeg).toInt32) hx hb dX8_look_50 rfl ?_
      refine lv_aload_n hx hb dX8_look_51 rfl (lv_at hl 1 rfl) ?_
      refine w_get (T := TX7) C hw (by have := hj1; omega) 4 kf_X8_49 (EC_sh X hj1 _ _) rfl inA7 (by decide) rfl dX8_look_52 ?_
      refine lv_iload_n hx hb dX8_look_55 rfl (lv_at hl 2 rfl) ?_
      refine lv_iconst (v := 2) hx hb dX8_look_56 (by decide) ?_
      refine lv_iadd hx hb dX8_look_57 ?_
      obtain ⟨h9, hf⟩ := gd_some hf
      refine w_lald C hw (by have := hj1; omega) (EC_el X hj1 _ _) h9 rfl dX8_look_58 ?_
      refine lv_l2i (v := (gL st (54 + 2 * j1) (v2 + (2 : Int32)).toNatClampNeg).toInt32) hx hb dX8_look_59 rfl ?_
      refine lv_aload_n hx hb dX8_look_60 rfl (lv_at hl 1 rfl) ?_
      refine w_get (T := TX7) C hw (by have := hj1; omega) 4 kf_X8_49 (EC_sh X hj1 _ _) rfl inA7 (by decide) rfl dX8_look_61 ?_
      refine lv_iload_n hx hb dX8_look_64 rfl (lv_at hl 2 rfl) ?_
      refine lv_iconst (v := 3) hx hb dX8_look_65 (by decide) ?_
      refine lv_iadd hx hb dX8_look_66 ?_
      obtain ⟨h10, hf⟩ := gd_some hf
      refine w_lald C hw (by have := hj1; omega) (EC_el X hj1 _ _) h10 rfl dX8_look_67 ?_
      refine lv_l2i (v := (gL st (54 + 2 * j1) (v2 + (3 : Int32)).toNatClampNeg).toInt32) hx hb dX8_look_68 rfl ?_
      obtain ⟨r11, k12, hf⟩ := bd_some hf
      refine w_goI hw (w_runV (rest := []) C hw (zX8_follow _ _ n st ((gL st (54 + 2 * j1) v2.toNatClampNeg).toInt32) ((gL st (54 + 2 * j1) (v2 + (1 : Int32)).toNatClampNeg).toInt32) ((gL st (54 + 2 * j1) (v2 + (2 : Int32)).toNatClampNeg).toInt32) ((gL st (54 + 2 * j1) (v2 + (3 : Int32)).toNatClampNeg).toInt32) r11 k12) (by decide) (EC_36 X _ _) rfl km_X8_53 ki_yX8_follow kv_X8_follow kz_X8 kc_X8_follow rfl ok_yX8_follow ⟨Nat.le_of_ble_eq_true rfl, Nat.le_of_ble_eq_true rfl⟩ rfl rfl rfl rfl hl.1 (Nat.le_of_ble_eq_true rfl) dX8_look_69 ⟨Nat.zero_le _, Nat.zero_le _⟩) (fun H locs hw => ?_)
      refine lv_if_ne (tgt := 76) hx hb dX8_look_72 (by decide) (fun c13 => ?_) (fun c13 => ?_)
      · replace hf := ite_f hf c13
        obtain ⟨x14, e15⟩ : ∃ z : Int32, z = v2 + (4 : Int32) := ⟨_, rfl⟩
        replace hf := bnd_nm hf e15
        refine lv_iinc (v := x14) (lv' := [(2, .int x14), (0, .ref (xq X 36)), (1, .ref (xq X (53 + 2 * j1)))]) hx hb dX8_look_76 hl (k := 2) rfl (by rw [e15]; rfl) (by decide) rfl (fun ls hl => ?_)
        refine lv_goto (tgt := 24) hx hb dX8_look_79 (by decide) ?_
        exact ih r11.2 j1 x14 _ _ _ hj1 hw (lv_sub hl [1, 2, 0] rfl) hf
      · replace hf := ite_t hf c13
        exact w_vret C hw hr (Option.some.inj hf) dX8_look_75
def fX8_look (n : Nat) (st : St) (i1 : Nat) : Option (St) := bnd (fX8_forget st) (fun r1 => if rmI (gI r1 (53 + 2 * i1) 3) (4 : Int32) = 0 then (bnd (sIs r1 37 (flI (gI r1 37) 400 (0 : Int32))) (fun st4 => fX8_look_24 n n st4 i1 (0 : Int32))) else (some r1))
set_option maxHeartbeats 4000000 in
theorem zX8_look (l : Launch) (X : WX) (n : Nat) (st : St) (i1 : Nat) (hi1 : i1 < 6) (R : St) (hf : fX8_look n st i1 = some R) : CtV l yX8_look cX8_look 3 ({ frames := 2, cells := 0, slots := 0, locals := 50 }) EC 65 X [.ref (xq X 36), .ref (xq X (53 + 2 * i1))] st R := by
  refine ct_in (own := RX8) (by decide +kernel) rfl (Nat.le_of_ble_eq_true rfl) (fun p e s m below meth c C hr hw ls hl => ?_)
  obtain ⟨hx, hb, hml, hown, hts⟩ := id C.1
  have hl : lv_has ls 3 [(0, .ref (xq X 36)), (1, .ref (xq X (53 + 2 * i1)))] := hl
  unfold fX8_look at hf
  refine lv_aload_n hx hb dX8_look_0 rfl (lv_at hl 0 rfl) ?_
  obtain ⟨r1, k2⟩ : ∃ z : St, z = fX8_forget st := ⟨_, rfl⟩
  replace hf := bnd_nm hf k2
  refine w_goV hw (w_runV (rest := []) C hw (zX8_forget _ _ st r1 k2.symm) (by decide) (EC_36 X _ _) rfl km_X8_41 ki_yX8_forget kv_X8_forget kz_X8 kc_X8_forget rfl ok_yX8_forget ⟨Nat.le_of_ble_eq_true rfl, Nat.le_of_ble_eq_true rfl⟩ rfl rfl rfl rfl hl.1 (Nat.le_of_ble_eq_true rfl) dX8_look_1 ⟨Nat.zero_le _, Nat.zero_le _⟩) (fun H locs hw => ?_)
  refine lv_aload_n hx hb dX8_look_4 rfl (lv_at hl 1 rfl) ?_
  refine w_get (T := TX7) C hw (by have := hi1; omega) 3 kf_X8_44 (EC_sh X hi1 _ _) rfl inA7 (by decide) rfl dX8_look_5 ?_
  refine lv_iconst (v := 4) hx hb dX8_look_8 (by decide) ?_
  refine w_irem C (by decide) dX8_look_9 ?_
  refine lv_if_eq (tgt := 14) hx hb dX8_look_10 (by decide) (fun c3 => ?_) (fun c3 => ?_)
  · replace hf := ite_t hf c3
    refine lv_aload_n hx hb dX8_look_14 rfl (lv_at hl 0 rfl) ?_
    refine w_get (T := TX8) C hw (by decide) 5 kf_X8_9 (EC_36 X _ _) rfl inA8 (by decide) rfl dX8_look_15 ?_
    refine lv_iconst (v := 0) hx hb dX8_look_18 (by decide) ?_
    obtain ⟨st4, es5⟩ : ∃ z : St, z = sIs r1 37 (flI (gI r1 37) 400 (0 : Int32)) := ⟨_, rfl⟩
    replace hf := bnd_nm hf es5
    refine w_goV hw (w_runS (rest := []) C hw (zfillI _ _ r1 37 400 (0 : Int32) (by decide) (fun f9 => EC_37 X f9 _) (by decide)) km_X8_35 kt_yJ7_fill_53178 kz_J7 kc_J7_fill_53178 ok_yJ7_fill_53178 ⟨Nat.le_of_ble_eq_true rfl, Nat.le_of_ble_eq_true rfl⟩ rfl rfl rfl rfl hl.1 (Nat.le_of_ble_eq_true rfl) dX8_look_19 ⟨Nat.zero_le _, Nat.zero_le _⟩) (fun H locs hw => ?_)
    rw [← es5] at hw
    refine lv_iconst (v := 0) hx hb dX8_look_22 (by decide) ?_
    refine lv_istore_n (lv' := [(2, .int (0 : Int32)), (0, .ref (xq X 36)), (1, .ref (xq X (53 + 2 * i1)))]) hx hb dX8_look_23 rfl hl (by decide) rfl (fun ls hl => ?_)
    exact tX8_look_24 C hr n st4 i1 (0 : Int32) _ _ _ hi1 hw (lv_sub hl [1, 2, 0] rfl) hf
  · replace hf := ite_f hf c3
    exact w_vret C hw hr (Option.some.inj hf) dX8_look_13
theorem dX8_columnToAsk_0 : decode cX8_columnToAsk 0 = .ok (.bipush (-2), 2) := by decide +kernel
theorem dX8_columnToAsk_2 : decode cX8_columnToAsk 2 = .ok (.istore_n 1, 1) := by decide +kernel
theorem dX8_columnToAsk_3 : decode cX8_columnToAsk 3 = .ok (.iconst 0, 1) := by decide +kernel
theorem dX8_columnToAsk_4 : decode cX8_columnToAsk 4 = .ok (.istore_n 2, 1) := by decide +kernel
theorem dX8_columnToAsk_5 : decode cX8_columnToAsk 5 = .ok (.iconst 0, 1) := by decide +kernel
theorem dX8_columnToAsk_6 : decode cX8_columnToAsk 6 = .ok (.istore_n 3, 1) := by decide +kernel
theorem dX8_columnToAsk_7 : decode cX8_columnToAsk 7 = .ok (.iload_n 3, 1) := by decide +kernel
theorem dX8_columnToAsk_8 : decode cX8_columnToAsk 8 = .ok (.bipush 20, 2) := by decide +kernel
theorem dX8_columnToAsk_10 : decode cX8_columnToAsk 10 = .ok (.if_icmp .ge 49, 3) := by decide +kernel
theorem dX8_columnToAsk_13 : decode cX8_columnToAsk 13 = .ok (.aload_n 0, 1) := by decide +kernel
theorem dX8_columnToAsk_14 : decode cX8_columnToAsk 14 = .ok (.getfield 22, 3) := by decide +kernel
theorem dX8_columnToAsk_17 : decode cX8_columnToAsk 17 = .ok (.ifCond .le 42, 3) := by decide +kernel
theorem dX8_columnToAsk_20 : decode cX8_columnToAsk 20 = .ok (.iconst 2, 1) := by decide +kernel
theorem dX8_columnToAsk_21 : decode cX8_columnToAsk 21 = .ok (.aload_n 0, 1) := by decide +kernel
theorem dX8_columnToAsk_22 : decode cX8_columnToAsk 22 = .ok (.getfield 15, 3) := by decide +kernel
theorem dX8_columnToAsk_25 : decode cX8_columnToAsk 25 = .ok (.iload_n 3, 1) := by decide +kernel
theorem dX8_columnToAsk_26 : decode cX8_columnToAsk 26 = .ok (.iaload, 1) := by decide +kernel
theorem dX8_columnToAsk_27 : decode cX8_columnToAsk 27 = .ok (.imul, 1) := by decide +kernel
theorem dX8_columnToAsk_28 : decode cX8_columnToAsk 28 = .ok (.aload_n 0, 1) := by decide +kernel
theorem dX8_columnToAsk_29 : decode cX8_columnToAsk 29 = .ok (.getfield 22, 3) := by decide +kernel
theorem dX8_columnToAsk_32 : decode cX8_columnToAsk 32 = .ok (.isub, 1) := by decide +kernel
theorem dX8_columnToAsk_33 : decode cX8_columnToAsk 33 = .ok (.invokestatic 75, 3) := by decide +kernel
theorem dX8_columnToAsk_36 : decode cX8_columnToAsk 36 = .ok (.istore 4, 2) := by decide +kernel
theorem dX8_columnToAsk_38 : decode cX8_columnToAsk 38 = .ok (.iload_n 1, 1) := by decide +kernel
theorem dX8_columnToAsk_39 : decode cX8_columnToAsk 39 = .ok (.ifCond .lt 9, 3) := by decide +kernel
theorem dX8_columnToAsk_42 : decode cX8_columnToAsk 42 = .ok (.iload 4, 2) := by decide +kernel
theorem dX8_columnToAsk_44 : decode cX8_columnToAsk 44 = .ok (.iload_n 2, 1) := by decide +kernel
theorem dX8_columnToAsk_45 : decode cX8_columnToAsk 45 = .ok (.if_icmp .ge 8, 3) := by decide +kernel
theorem dX8_columnToAsk_48 : decode cX8_columnToAsk 48 = .ok (.iload_n 3, 1) := by decide +kernel
theorem dX8_columnToAsk_49 : decode cX8_columnToAsk 49 = .ok (.istore_n 1, 1) := by decide +kernel
theorem dX8_columnToAsk_50 : decode cX8_columnToAsk 50 = .ok (.iload 4, 2) := by decide +kernel
theorem dX8_columnToAsk_52 : decode cX8_columnToAsk 52 = .ok (.istore_n 2, 1) := by decide +kernel
theorem dX8_columnToAsk_53 : decode cX8_columnToAsk 53 = .ok (.iinc 3 1, 3) := by decide +kernel
theorem dX8_columnToAsk_56 : decode cX8_columnToAsk 56 = .ok (.goto (-49), 3) := by decide +kernel
theorem dX8_columnToAsk_59 : decode cX8_columnToAsk 59 = .ok (.iload_n 1, 1) := by decide +kernel
theorem dX8_columnToAsk_60 : decode cX8_columnToAsk 60 = .ok (.ireturn, 1) := by decide +kernel
theorem ok_yX8_columnToAsk : yOk yX8_columnToAsk 0 := ⟨by decide +kernel, by decide +kernel, by decide +kernel⟩
def fX8_columnToAsk_7 (n : Nat) (st : St) : Nat → Int32 → Int32 → Int32 → Option (Int32)
  | 0, _, _, _ => none
  | k + 1, v1, v2, v3 => if (20 : Int32) ≤ v3 then (some v1) else (if gI st 36 0 ≤ 0 then (some v1) else (gd (inB v3 20) (bnd (abI (((2 : Int32) * (gI st 38 v3.toNatClampNeg)) - (gI st 36 0))) (fun x4 => if v1 < 0 then (bnd (v3 + (1 : Int32)) (fun x7 => fX8_columnToAsk_7 n st k v3 x4 x7)) else (if v2 ≤ x4 then (bnd (v3 + (1 : Int32)) (fun x10 => fX8_columnToAsk_7 n st k v1 v2 x10)) else (bnd (v3 + (1 : Int32)) (fun x12 => fX8_columnToAsk_7 n st k v3 x4 x12)))))))
set_option maxHeartbeats 4000000 in
theorem tX8_columnToAsk_7 {p : Program} {l : Launch} {e : Env} {s : State} {m : MethodId} {args : Array Value} {below : List Frame} {meth : Method} {c : Code} {X : WX} (C : Amb 65 X p s m args meth c cX8_columnToAsk 5 RX8) (hr : meth.sig.returnType = some .int) {R : Int32} {n : Nat} {st : St} : ∀ (k : Nat) (v1 : Int32) (v2 : Int32) (v3 : Int32) (H : Heap) (locs : List Loc) (ls : Array Slot), Wd EC 65 X s.heap st H locs → lv_has ls 5 [(0, .ref (xq X 36)), (1, .int v1), (2, .int v2), (3, .int v3)] → fX8_columnToAsk_7 n st k v1 v2 v3 = some R → W p l e { frames := 1, cells := 0, slots := 0, locals := 21 } s m args below meth c H locs 0 0 (QI EC 65 X R st below args s) (F0 m 7 ls []) := by
  obtain ⟨hx, hb, hml, hown, hts⟩ := id C.1
  intro k
  induction k with
  | zero => intro v1 v2 v3 H locs ls  hw hl hf; exact absurd (show none = some R from hf) (fun z => by cases z)
  | succ k ih =>
    intro v1 v2 v3 H locs ls  hw hl hf
    rw [fX8_columnToAsk_7] at hf
    refine lv_iload_n hx hb dX8_columnToAsk_7 rfl (lv_at hl 3 rfl) ?_
    refine lv_bipush (v := 20) hx hb dX8_columnToAsk_8 (by decide) ?_
    refine lv_icmp_ge (tgt := 59) hx hb dX8_columnToAsk_10 (by decide) (fun c1 => ?_) (fun c1 => ?_)
    · replace hf := ite_t hf c1
      refine lv_iload_n hx hb dX8_columnToAsk_59 rfl (lv_at hl 1 rfl) ?_
      exact w_iret C hw hr (Option.some.inj hf) rfl dX8_columnToAsk_60
    · replace hf := ite_f hf c1
      refine lv_aload_n hx hb dX8_columnToAsk_13 rfl (lv_at hl 0 rfl) ?_
      refine w_get (T := TX8) C hw (by decide) 0 kf_X8_22 (EC_36 X _ _) rfl inA8 (by decide) rfl dX8_columnToAsk_14 ?_
      refine lv_if_le (tgt := 59) hx hb dX8_columnToAsk_17 (by decide) (fun c2 => ?_) (fun c2 => ?_)
      · replace hf := ite_t hf c2
        refine lv_iload_n hx hb dX8_columnToAsk_59 rfl (lv_at hl 1 rfl) ?_
        exact w_iret C hw hr (Option.some.inj hf) rfl dX8_columnToAsk_60
      · replace hf := ite_f hf c2
        refine lv_iconst (v := 2) hx hb dX8_columnToAsk_20 (by decide) ?_
        refine lv_aload_n hx hb dX8_columnToAsk_21 rfl (lv_at hl 0 rfl) ?_
        refine w_get (T := TX8) C hw (by decide) 6 kf_X8_15 (EC_36 X _ _) rfl inA8 (by decide) rfl dX8_columnToAsk_22 ?_
        refine lv_iload_n hx hb dX8_columnToAsk_25 rfl (lv_at hl 3 rfl) ?_
        obtain ⟨h3, hf⟩ := gd_some hf
        refine w_iald C hw (by decide) (EC_38 X _ _) h3 rfl dX8_columnToAsk_26 ?_
        refine lv_imul hx hb dX8_columnToAsk_27 ?_
        refine lv_aload_n hx hb dX8_columnToAsk_28 rfl (lv_at hl 0 rfl) ?_
        refine w_get (T := TX8) C hw (by decide) 0 kf_X8_22 (EC_36 X _ _) rfl inA8 (by decide) rfl dX8_columnToAsk_29 ?_
        refine lv_isub hx hb dX8_columnToAsk_32 ?_
        refine w_abs C hl.1 km_X8_75 (Nat.le_of_ble_eq_true rfl) (Nat.le_of_ble_eq_true rfl) (Nat.zero_le _) (Nat.zero_le _) dX8_columnToAsk_33 ?_
        refine lv_topi (fun x4 e5 => ?_)
        replace hf := bnd_nm hf e5
        refine lv_istore (lv' := [(4, .int x4), (0, .ref (xq X 36)), (1, .int v1), (2, .int v2), (3, .int v3)]) hx hb dX8_columnToAsk_36 hl (by decide) rfl (fun ls hl => ?_)
        refine lv_iload_n hx hb dX8_columnToAsk_38 rfl (lv_at hl 2 rfl) ?_
        refine lv_if_lt (tgt := 48) hx hb dX8_columnToAsk_39 (by decide) (fun c6 => ?_) (fun c6 => ?_)
        · replace hf := ite_t hf c6
          refine lv_iload_n hx hb dX8_columnToAsk_48 rfl (lv_at hl 4 rfl) ?_
          refine lv_istore_n (lv' := [(1, .int v3), (4, .int x4), (0, .ref (xq X 36)), (2, .int v2), (3, .int v3)]) hx hb dX8_columnToAsk_49 rfl hl (by decide) rfl (fun ls hl => ?_)
          refine lv_iload hx hb dX8_columnToAsk_50 (lv_at hl 1 rfl) ?_
          refine lv_istore_n (lv' := [(2, .int x4), (1, .int v3), (4, .int x4), (0, .ref (xq X 36)), (3, .int v3)]) hx hb dX8_columnToAsk_52 rfl hl (by decide) rfl (fun ls hl => ?_)
          obtain ⟨x7, e8⟩ : ∃ z : Int32, z = v3 + (1 : Int32) := ⟨_, rfl⟩
          replace hf := bnd_nm hf e8
          refine lv_iinc (v := x7) (lv' := [(3, .int x7), (2, .int x4), (1, .int v3), (4, .int x4), (0, .ref (xq X 36))]) hx hb dX8_columnToAsk_53 hl (k := 4) rfl (by rw [e8]; rfl) (by decide) rfl (fun ls hl => ?_)
          refine lv_goto (tgt := 7) hx hb dX8_columnToAsk_56 (by decide) ?_
          exact ih v3 x4 x7 _ _ _ hw (lv_sub hl [4, 2, 1, 0] rfl) hf
        · replace hf := ite_f hf c6
          refine lv_iload hx hb dX8_columnToAsk_42 (lv_at hl 0 rfl) ?_
          refine lv_iload_n hx hb dX8_columnToAsk_44 rfl (lv_at hl 3 rfl) ?_
          refine lv_icmp_ge (tgt := 53) hx hb dX8_columnToAsk_45 (by decide) (fun c9 => ?_) (fun c9 => ?_)
          · replace hf := ite_t hf c9
            obtain ⟨x10, e11⟩ : ∃ z : Int32, z = v3 + (1 : Int32) := ⟨_, rfl⟩
            replace hf := bnd_nm hf e11
            refine lv_iinc (v := x10) (lv' := [(3, .int x10), (4, .int x4), (0, .ref (xq X 36)), (1, .int v1), (2, .int v2)]) hx hb dX8_columnToAsk_53 hl (k := 4) rfl (by rw [e11]; rfl) (by decide) rfl (fun ls hl => ?_)
            refine lv_goto (tgt := 7) hx hb dX8_columnToAsk_56 (by decide) ?_
            exact ih v1 v2 x10 _ _ _ hw (lv_sub hl [2, 3, 4, 0] rfl) hf
          · replace hf := ite_f hf c9
            refine lv_iload_n hx hb dX8_columnToAsk_48 rfl (lv_at hl 4 rfl) ?_
            refine lv_istore_n (lv' := [(1, .int v3), (4, .int x4), (0, .ref (xq X 36)), (2, .int v2), (3, .int v3)]) hx hb dX8_columnToAsk_49 rfl hl (by decide) rfl (fun ls hl => ?_)
            refine lv_iload hx hb dX8_columnToAsk_50 (lv_at hl 1 rfl) ?_
            refine lv_istore_n (lv' := [(2, .int x4), (1, .int v3), (4, .int x4), (0, .ref (xq X 36)), (3, .int v3)]) hx hb dX8_columnToAsk_52 rfl hl (by decide) rfl (fun ls hl => ?_)
            obtain ⟨x12, e13⟩ : ∃ z : Int32, z = v3 + (1 : Int32) := ⟨_, rfl⟩
            replace hf := bnd_nm hf e13
            refine lv_iinc (v := x12) (lv' := [(3, .int x12), (2, .int x4), (1, .int v3), (4, .int x4), (0, .ref (xq X 36))]) hx hb dX8_columnToAsk_53 hl (k := 4) rfl (by rw [e13]; rfl) (by decide) rfl (fun ls hl => ?_)
            refine lv_goto (tgt := 7) hx hb dX8_columnToAsk_56 (by decide) ?_
            exact ih v3 x4 x12 _ _ _ hw (lv_sub hl [4, 2, 1, 0] rfl) hf
def fX8_columnToAsk (n : Nat) (st : St) : Option (Int32) := fX8_columnToAsk_7 n st n (-2 : Int32) (0 : Int32) (0 : Int32)
set_option maxHeartbeats 4000000 in
theorem zX8_columnToAsk (l : Launch) (X : WX) (n : Nat) (st : St)  (R : Int32) (hf : fX8_columnToAsk n st = some R) : CtI l yX8_columnToAsk cX8_columnToAsk 5 .int ({ frames := 1, cells := 0, slots := 0, locals := 21 }) EC 65 X [.ref (xq X 36)] st R st := by
  refine ct_in (own := RX8) (by decide +kernel) rfl (Nat.le_of_ble_eq_true rfl) (fun p e s m below meth c C hr hw ls hl => ?_)
  obtain ⟨hx, hb, hml, hown, hts⟩ := id C.1
  have hl : lv_has ls 5 [(0, .ref (xq X 36))] := hl
  unfold fX8_columnToAsk at hf
  refine lv_bipush (v := -2) hx hb dX8_columnToAsk_0 (by decide) ?_
  refine lv_istore_n (lv' := [(1, .int (-2 : Int32)), (0, .ref (xq X 36))]) hx hb dX8_columnToAsk_2 rfl hl (by decide) rfl (fun ls hl => ?_)
  refine lv_iconst (v := 0) hx hb dX8_columnToAsk_3 (by decide) ?_
  refine lv_istore_n (lv' := [(2, .int (0 : Int32)), (1, .int (-2 : Int32)), (0, .ref (xq X 36))]) hx hb dX8_columnToAsk_4 rfl hl (by decide) rfl (fun ls hl => ?_)
  refine lv_iconst (v := 0) hx hb dX8_columnToAsk_5 (by decide) ?_
  refine lv_istore_n (lv' := [(3, .int (0 : Int32)), (2, .int (0 : Int32)), (1, .int (-2 : Int32)), (0, .ref (xq X 36))]) hx hb dX8_columnToAsk_6 rfl hl (by decide) rfl (fun ls hl => ?_)
  exact tX8_columnToAsk_7 C hr n (-2 : Int32) (0 : Int32) (0 : Int32) _ _ _ hw (lv_sub hl [3, 2, 1, 0] rfl) hf
theorem dX8_minuteCried_0 : decode cX8_minuteCried 0 = .ok (.iconst 0, 1) := by decide +kernel
theorem dX8_minuteCried_1 : decode cX8_minuteCried 1 = .ok (.istore_n 3, 1) := by decide +kernel
theorem dX8_minuteCried_2 : decode cX8_minuteCried 2 = .ok (.iconst 0, 1) := by decide +kernel
theorem dX8_minuteCried_3 : decode cX8_minuteCried 3 = .ok (.istore 4, 2) := by decide +kernel
theorem dX8_minuteCried_5 : decode cX8_minuteCried 5 = .ok (.iload 4, 2) := by decide +kernel
theorem dX8_minuteCried_7 : decode cX8_minuteCried 7 = .ok (.aload_n 1, 1) := by decide +kernel
theorem dX8_minuteCried_8 : decode cX8_minuteCried 8 = .ok (.getfield 44, 3) := by decide +kernel
theorem dX8_minuteCried_11 : decode cX8_minuteCried 11 = .ok (.iconst 3, 1) := by decide +kernel
theorem dX8_minuteCried_12 : decode cX8_minuteCried 12 = .ok (.isub, 1) := by decide +kernel
theorem dX8_minuteCried_13 : decode cX8_minuteCried 13 = .ok (.if_icmp .gt 82, 3) := by decide +kernel
theorem dX8_minuteCried_16 : decode cX8_minuteCried 16 = .ok (.aload_n 1, 1) := by decide +kernel
theorem dX8_minuteCried_17 : decode cX8_minuteCried 17 = .ok (.getfield 49, 3) := by decide +kernel
theorem dX8_minuteCried_20 : decode cX8_minuteCried 20 = .ok (.iload 4, 2) := by decide +kernel
theorem dX8_minuteCried_22 : decode cX8_minuteCried 22 = .ok (.laload, 1) := by decide +kernel
theorem dX8_minuteCried_23 : decode cX8_minuteCried 23 = .ok (.l2i, 1) := by decide +kernel
theorem dX8_minuteCried_24 : decode cX8_minuteCried 24 = .ok (.iload_n 2, 1) := by decide +kernel
theorem dX8_minuteCried_25 : decode cX8_minuteCried 25 = .ok (.bipush 20, 2) := by decide +kernel
theorem dX8_minuteCried_27 : decode cX8_minuteCried 27 = .ok (.irem, 1) := by decide +kernel
theorem dX8_minuteCried_28 : decode cX8_minuteCried 28 = .ok (.isub, 1) := by decide +kernel
theorem dX8_minuteCried_29 : decode cX8_minuteCried 29 = .ok (.invokestatic 75, 3) := by decide +kernel
theorem dX8_minuteCried_32 : decode cX8_minuteCried 32 = .ok (.aload_n 1, 1) := by decide +kernel
theorem dX8_minuteCried_33 : decode cX8_minuteCried 33 = .ok (.getfield 49, 3) := by decide +kernel
theorem dX8_minuteCried_36 : decode cX8_minuteCried 36 = .ok (.iload 4, 2) := by decide +kernel
theorem dX8_minuteCried_38 : decode cX8_minuteCried 38 = .ok (.iconst 1, 1) := by decide +kernel
theorem dX8_minuteCried_39 : decode cX8_minuteCried 39 = .ok (.iadd, 1) := by decide +kernel
theorem dX8_minuteCried_40 : decode cX8_minuteCried 40 = .ok (.laload, 1) := by decide +kernel
theorem dX8_minuteCried_41 : decode cX8_minuteCried 41 = .ok (.l2i, 1) := by decide +kernel
theorem dX8_minuteCried_42 : decode cX8_minuteCried 42 = .ok (.iload_n 2, 1) := by decide +kernel
theorem dX8_minuteCried_43 : decode cX8_minuteCried 43 = .ok (.bipush 20, 2) := by decide +kernel
theorem dX8_minuteCried_45 : decode cX8_minuteCried 45 = .ok (.idiv, 1) := by decide +kernel
theorem dX8_minuteCried_46 : decode cX8_minuteCried 46 = .ok (.isub, 1) := by decide +kernel
theorem dX8_minuteCried_47 : decode cX8_minuteCried 47 = .ok (.invokestatic 75, 3) := by decide +kernel
theorem dX8_minuteCried_50 : decode cX8_minuteCried 50 = .ok (.iadd, 1) := by decide +kernel
theorem dX8_minuteCried_51 : decode cX8_minuteCried 51 = .ok (.istore 5, 2) := by decide +kernel
theorem dX8_minuteCried_53 : decode cX8_minuteCried 53 = .ok (.aload_n 1, 1) := by decide +kernel
theorem dX8_minuteCried_54 : decode cX8_minuteCried 54 = .ok (.getfield 49, 3) := by decide +kernel
theorem dX8_minuteCried_57 : decode cX8_minuteCried 57 = .ok (.iload 4, 2) := by decide +kernel
theorem dX8_minuteCried_59 : decode cX8_minuteCried 59 = .ok (.iconst 2, 1) := by decide +kernel
theorem dX8_minuteCried_60 : decode cX8_minuteCried 60 = .ok (.iadd, 1) := by decide +kernel
theorem dX8_minuteCried_61 : decode cX8_minuteCried 61 = .ok (.laload, 1) := by decide +kernel
theorem dX8_minuteCried_62 : decode cX8_minuteCried 62 = .ok (.l2i, 1) := by decide +kernel
theorem dX8_minuteCried_63 : decode cX8_minuteCried 63 = .ok (.iload 5, 2) := by decide +kernel
theorem dX8_minuteCried_65 : decode cX8_minuteCried 65 = .ok (.isub, 1) := by decide +kernel
theorem dX8_minuteCried_66 : decode cX8_minuteCried 66 = .ok (.istore 6, 2) := by decide +kernel
theorem dX8_minuteCried_68 : decode cX8_minuteCried 68 = .ok (.iload 6, 2) := by decide +kernel
theorem dX8_minuteCried_70 : decode cX8_minuteCried 70 = .ok (.ifCond .lt 14, 3) := by decide +kernel
theorem dX8_minuteCried_73 : decode cX8_minuteCried 73 = .ok (.iload 4, 2) := by decide +kernel
theorem dX8_minuteCried_75 : decode cX8_minuteCried 75 = .ok (.ifCond .le 11, 3) := by decide +kernel
theorem dX8_minuteCried_78 : decode cX8_minuteCried 78 = .ok (.iload 6, 2) := by decide +kernel
theorem dX8_minuteCried_80 : decode cX8_minuteCried 80 = .ok (.iload_n 3, 1) := by decide +kernel
theorem dX8_minuteCried_81 : decode cX8_minuteCried 81 = .ok (.if_icmp .eq 5, 3) := by decide +kernel
theorem dX8_minuteCried_84 : decode cX8_minuteCried 84 = .ok (.iconst (-1), 1) := by decide +kernel
theorem dX8_minuteCried_85 : decode cX8_minuteCried 85 = .ok (.ireturn, 1) := by decide +kernel
theorem dX8_minuteCried_86 : decode cX8_minuteCried 86 = .ok (.iload 6, 2) := by decide +kernel
theorem dX8_minuteCried_88 : decode cX8_minuteCried 88 = .ok (.istore_n 3, 1) := by decide +kernel
theorem dX8_minuteCried_89 : decode cX8_minuteCried 89 = .ok (.iinc 4 3, 3) := by decide +kernel
theorem dX8_minuteCried_92 : decode cX8_minuteCried 92 = .ok (.goto (-87), 3) := by decide +kernel
theorem dX8_minuteCried_95 : decode cX8_minuteCried 95 = .ok (.iload_n 3, 1) := by decide +kernel
theorem dX8_minuteCried_96 : decode cX8_minuteCried 96 = .ok (.ireturn, 1) := by decide +kernel
theorem ok_yX8_minuteCried : yOk yX8_minuteCried 2 := ⟨by decide +kernel, by decide +kernel, by decide +kernel⟩
def fX8_minuteCried_5 (n : Nat) (st : St) : Nat → Nat → Int32 → Int32 → Int32 → Option (Int32)
  | 0, _, _, _, _ => none
  | k + 1, j1, v2, v3, v4 => if (gI st (53 + 2 * j1) 3) - (3 : Int32) < v4 then (some v3) else (gd (inB v4 60) (gd (inB (v4 + (1 : Int32)) 60) (bnd ((abI (((gL st (54 + 2 * j1) v4.toNatClampNeg).toInt32) - (rmI v2 (20 : Int32)))) + (abI (((gL st (54 + 2 * j1) (v4 + (1 : Int32)).toNatClampNeg).toInt32) - (v2 / (20 : Int32))))) (fun x4 => gd (inB (v4 + (2 : Int32)) 60) (bnd (((gL st (54 + 2 * j1) (v4 + (2 : Int32)).toNatClampNeg).toInt32) - x4) (fun x7 => if x7 < 0 then (some (-1 : Int32)) else (if v4 ≤ 0 then (bnd (v4 + (3 : Int32)) (fun x11 => fX8_minuteCried_5 n st k j1 v2 x7 x11)) else (if x7 = v3 then (bnd (v4 + (3 : Int32)) (fun x14 => fX8_minuteCried_5 n st k j1 v2 x7 x14)) else (some (-1 : Int32))))))))))
set_option maxHeartbeats 4000000 in
theorem tX8_minuteCried_5 {p : Program} {l : Launch} {e : Env} {s : State} {m : MethodId} {args : Array Value} {below : List Frame} {meth : Method} {c : Code} {X : WX} (C : Amb 65 X p s m args meth c cX8_minuteCried 7 RX8) (hr : meth.sig.returnType = some .int) {R : Int32} {n : Nat} {st : St} : ∀ (k : Nat) (j1 : Nat) (v2 : Int32) (v3 : Int32) (v4 : Int32) (H : Heap) (locs : List Loc) (ls : Array Slot), j1 < 6 → Wd EC 65 X s.heap st H locs → lv_has ls 7 [(1, .ref (xq X (53 + 2 * j1))), (2, .int v2), (3, .int v3), (4, .int v4)] → fX8_minuteCried_5 n st k j1 v2 v3 v4 = some R → W p l e { frames := 1, cells := 0, slots := 0, locals := 21 } s m args below meth c H locs 0 0 (QI EC 65 X R st below args s) (F0 m 5 ls []) := by
  obtain ⟨hx, hb, hml, hown, hts⟩ := id C.1
  intro k
  induction k with
  | zero => intro j1 v2 v3 v4 H locs ls hj1 hw hl hf; exact absurd (show none = some R from hf) (fun z => by cases z)
  | succ k ih =>
    intro j1 v2 v3 v4 H locs ls hj1 hw hl hf
    rw [fX8_minuteCried_5] at hf
    refine lv_iload hx hb dX8_minuteCried_5 (lv_at hl 3 rfl) ?_
    refine lv_aload_n hx hb dX8_minuteCried_7 rfl (lv_at hl 0 rfl) ?_
    refine w_get (T := TX7) C hw (by have := hj1; omega) 3 kf_X8_44 (EC_sh X hj1 _ _) rfl inA7 (by decide) rfl dX8_minuteCried_8 ?_
    refine lv_iconst (v := 3) hx hb dX8_minuteCried_11 (by decide) ?_
    refine lv_isub hx hb dX8_minuteCried_12 ?_
    refine lv_icmp_gt (tgt := 95) hx hb dX8_minuteCried_13 (by decide) (fun c1 => ?_) (fun c1 => ?_)
    · replace hf := ite_t hf c1
      refine lv_iload_n hx hb dX8_minuteCried_95 rfl (lv_at hl 2 rfl) ?_
      exact w_iret C hw hr (Option.some.inj hf) rfl dX8_minuteCried_96
    · replace hf := ite_f hf c1
      refine lv_aload_n hx hb dX8_minuteCried_16 rfl (lv_at hl 0 rfl) ?_
      refine w_get (T := TX7) C hw (by have := hj1; omega) 4 kf_X8_49 (EC_sh X hj1 _ _) rfl inA7 (by decide) rfl dX8_minuteCried_17 ?_
      refine lv_iload hx hb dX8_minuteCried_20 (lv_at hl 3 rfl) ?_
      obtain ⟨h2, hf⟩ := gd_some hf
      refine w_lald C hw (by have := hj1; omega) (EC_el X hj1 _ _) h2 rfl dX8_minuteCried_22 ?_
      refine lv_l2i (v := (gL st (54 + 2 * j1) v4.toNatClampNeg).toInt32) hx hb dX8_minuteCried_23 rfl ?_
      refine lv_iload_n hx hb dX8_minuteCried_24 rfl (lv_at hl 1 rfl) ?_
      refine lv_bipush (v := 20) hx hb dX8_minuteCried_25 (by decide) ?_
      refine w_irem C (by decide) dX8_minuteCried_27 ?_
      refine lv_isub hx hb dX8_minuteCried_28 ?_
      refine w_abs C hl.1 km_X8_75 (Nat.le_of_ble_eq_true rfl) (Nat.le_of_ble_eq_true rfl) (Nat.zero_le _) (Nat.zero_le _) dX8_minuteCried_29 ?_
      refine lv_aload_n hx hb dX8_minuteCried_32 rfl (lv_at hl 0 rfl) ?_
      refine w_get (T := TX7) C hw (by have := hj1; omega) 4 kf_X8_49 (EC_sh X hj1 _ _) rfl inA7 (by decide) rfl dX8_minuteCried_33 ?_
      refine lv_iload hx hb dX8_minuteCried_36 (lv_at hl 3 rfl) ?_
      refine lv_iconst (v := 1) hx hb dX8_minuteCried_38 (by decide) ?_
      refine lv_iadd hx hb dX8_minuteCried_39 ?_
      obtain ⟨h3, hf⟩ := gd_some hf
      refine w_lald C hw (by have := hj1; omega) (EC_el X hj1 _ _) h3 rfl dX8_minuteCried_40 ?_
      refine lv_l2i (v := (gL st (54 + 2 * j1) (v4 + (1 : Int32)).toNatClampNeg).toInt32) hx hb dX8_minuteCried_41 rfl ?_
      refine lv_iload_n hx hb dX8_minuteCried_42 rfl (lv_at hl 1 rfl) ?_
      refine lv_bipush (v := 20) hx hb dX8_minuteCried_43 (by decide) ?_
      refine lv_idiv hx hb dX8_minuteCried_45 (by decide) ?_
      refine lv_isub hx hb dX8_minuteCried_46 ?_
      refine w_abs C hl.1 km_X8_75 (Nat.le_of_ble_eq_true rfl) (Nat.le_of_ble_eq_true rfl) (Nat.zero_le _) (Nat.zero_le _) dX8_minuteCried_47 ?_
      refine lv_iadd hx hb dX8_minuteCried_50 ?_
      refine lv_topi (fun x4 e5 => ?_)
      replace hf := bnd_nm hf e5
      refine lv_istore (lv' := [(5, .int x4), (1, .ref (xq X (53 + 2 * j1))), (2, .int v2), (3, .int v3), (4, .int v4)]) hx hb dX8_minuteCried_51 hl (by decide) rfl (fun ls hl => ?_)
      refine lv_aload_n hx hb dX8_minuteCried_53 rfl (lv_at hl 1 rfl) ?_
      refine w_get (T := TX7) C hw (by have := hj1; omega) 4 kf_X8_49 (EC_sh X hj1 _ _) rfl inA7 (by decide) rfl dX8_minuteCried_54 ?_
      refine lv_iload hx hb dX8_minuteCried_57 (lv_at hl 4 rfl) ?_
      refine lv_iconst (v := 2) hx hb dX8_minuteCried_59 (by decide) ?_
      refine lv_iadd hx hb dX8_minuteCried_60 ?_
      obtain ⟨h6, hf⟩ := gd_some hf
      refine w_lald C hw (by have := hj1; omega) (EC_el X hj1 _ _) h6 rfl dX8_minuteCried_61 ?_
      refine lv_l2i (v := (gL st (54 + 2 * j1) (v4 + (2 : Int32)).toNatClampNeg).toInt32) hx hb dX8_minuteCried_62 rfl ?_
      refine lv_iload hx hb dX8_minuteCried_63 (lv_at hl 0 rfl) ?_
      refine lv_isub hx hb dX8_minuteCried_65 ?_
      refine lv_topi (fun x7 e8 => ?_)
      replace hf := bnd_nm hf e8
      refine lv_istore (lv' := [(6, .int x7), (5, .int x4), (1, .ref (xq X (53 + 2 * j1))), (2, .int v2), (3, .int v3), (4, .int v4)]) hx hb dX8_minuteCried_66 hl (by decide) rfl (fun ls hl => ?_)
      refine lv_iload hx hb dX8_minuteCried_68 (lv_at hl 0 rfl) ?_
      refine lv_if_lt (tgt := 84) hx hb dX8_minuteCried_70 (by decide) (fun c9 => ?_) (fun c9 => ?_)
      · replace hf := ite_t hf c9
        refine lv_iconst (v := -1) hx hb dX8_minuteCried_84 (by decide) ?_
        exact w_iret C hw hr (Option.some.inj hf) rfl dX8_minuteCried_85
      · replace hf := ite_f hf c9
        refine lv_iload hx hb dX8_minuteCried_73 (lv_at hl 5 rfl) ?_
        refine lv_if_le (tgt := 86) hx hb dX8_minuteCried_75 (by decide) (fun c10 => ?_) (fun c10 => ?_)
        · replace hf := ite_t hf c10
          refine lv_iload hx hb dX8_minuteCried_86 (lv_at hl 0 rfl) ?_
          refine lv_istore_n (lv' := [(3, .int x7), (6, .int x7), (5, .int x4), (1, .ref (xq X (53 + 2 * j1))), (2, .int v2), (4, .int v4)]) hx hb dX8_minuteCried_88 rfl hl (by decide) rfl (fun ls hl => ?_)
          obtain ⟨x11, e12⟩ : ∃ z : Int32, z = v4 + (3 : Int32) := ⟨_, rfl⟩
          replace hf := bnd_nm hf e12
          refine lv_iinc (v := x11) (lv' := [(4, .int x11), (3, .int x7), (6, .int x7), (5, .int x4), (1, .ref (xq X (53 + 2 * j1))), (2, .int v2)]) hx hb dX8_minuteCried_89 hl (k := 5) rfl (by rw [e12]; rfl) (by decide) rfl (fun ls hl => ?_)
          refine lv_goto (tgt := 5) hx hb dX8_minuteCried_92 (by decide) ?_
          exact ih j1 v2 x7 x11 _ _ _ hj1 hw (lv_sub hl [4, 5, 1, 0] rfl) hf
        · replace hf := ite_f hf c10
          refine lv_iload hx hb dX8_minuteCried_78 (lv_at hl 0 rfl) ?_
          refine lv_iload_n hx hb dX8_minuteCried_80 rfl (lv_at hl 4 rfl) ?_
          refine lv_icmp_eq (tgt := 86) hx hb dX8_minuteCried_81 (by decide) (fun c13 => ?_) (fun c13 => ?_)
          · replace hf := ite_t hf c13
            refine lv_iload hx hb dX8_minuteCried_86 (lv_at hl 0 rfl) ?_
            refine lv_istore_n (lv' := [(3, .int x7), (6, .int x7), (5, .int x4), (1, .ref (xq X (53 + 2 * j1))), (2, .int v2), (4, .int v4)]) hx hb dX8_minuteCried_88 rfl hl (by decide) rfl (fun ls hl => ?_)
            obtain ⟨x14, e15⟩ : ∃ z : Int32, z = v4 + (3 : Int32) := ⟨_, rfl⟩
            replace hf := bnd_nm hf e15
            refine lv_iinc (v := x14) (lv' := [(4, .int x14), (3, .int x7), (6, .int x7), (5, .int x4), (1, .ref (xq X (53 + 2 * j1))), (2, .int v2)]) hx hb dX8_minuteCried_89 hl (k := 5) rfl (by rw [e15]; rfl) (by decide) rfl (fun ls hl => ?_)
            refine lv_goto (tgt := 5) hx hb dX8_minuteCried_92 (by decide) ?_
            exact ih j1 v2 x7 x14 _ _ _ hj1 hw (lv_sub hl [4, 5, 1, 0] rfl) hf
          · replace hf := ite_f hf c13
            refine lv_iconst (v := -1) hx hb dX8_minuteCried_84 (by decide) ?_
            exact w_iret C hw hr (Option.some.inj hf) rfl dX8_minuteCried_85
def fX8_minuteCried (n : Nat) (st : St) (i1 : Nat) (a2 : Int32) : Option (Int32) := fX8_minuteCried_5 n st n i1 a2 (0 : Int32) (0 : Int32)
set_option maxHeartbeats 4000000 in
theorem zX8_minuteCried (l : Launch) (X : WX) (n : Nat) (st : St) (i1 : Nat) (a2 : Int32) (hi1 : i1 < 6) (R : Int32) (hf : fX8_minuteCried n st i1 a2 = some R) : CtI l yX8_minuteCried cX8_minuteCried 7 .int ({ frames := 1, cells := 0, slots := 0, locals := 21 }) EC 65 X [.ref (xq X 36), .ref (xq X (53 + 2 * i1)), .int a2] st R st := by
  refine ct_in (own := RX8) (by decide +kernel) rfl (Nat.le_of_ble_eq_true rfl) (fun p e s m below meth c C hr hw ls hl => ?_)
  obtain ⟨hx, hb, hml, hown, hts⟩ := id C.1
  have hl : lv_has ls 7 [(0, .ref (xq X 36)), (1, .ref (xq X (53 + 2 * i1))), (2, .int a2)] := hl
  unfold fX8_minuteCried at hf
  refine lv_iconst (v := 0) hx hb dX8_minuteCried_0 (by decide) ?_
  refine lv_istore_n (lv' := [(3, .int (0 : Int32)), (0, .ref (xq X 36)), (1, .ref (xq X (53 + 2 * i1))), (2, .int a2)]) hx hb dX8_minuteCried_1 rfl hl (by decide) rfl (fun ls hl => ?_)
  refine lv_iconst (v := 0) hx hb dX8_minuteCried_2 (by decide) ?_
  refine lv_istore (lv' := [(4, .int (0 : Int32)), (3, .int (0 : Int32)), (0, .ref (xq X 36)), (1, .ref (xq X (53 + 2 * i1))), (2, .int a2)]) hx hb dX8_minuteCried_3 hl (by decide) rfl (fun ls hl => ?_)
  exact tX8_minuteCried_5 C hr n i1 a2 (0 : Int32) (0 : Int32) _ _ _ hi1 hw (lv_sub hl [3, 4, 1, 0] rfl) hf
theorem dX8_listen_0 : decode cX8_listen 0 = .ok (.aload_n 0, 1) := by decide +kernel
theorem dX8_listen_1 : decode cX8_listen 1 = .ok (.invokevirtual 41, 3) := by decide +kernel
theorem dX8_listen_4 : decode cX8_listen 4 = .ok (.aload_n 1, 1) := by decide +kernel
theorem dX8_listen_5 : decode cX8_listen 5 = .ok (.getfield 44, 3) := by decide +kernel
theorem dX8_listen_8 : decode cX8_listen 8 = .ok (.ifCond .eq 12, 3) := by decide +kernel
theorem dX8_listen_11 : decode cX8_listen 11 = .ok (.aload_n 1, 1) := by decide +kernel
theorem dX8_listen_12 : decode cX8_listen 12 = .ok (.getfield 44, 3) := by decide +kernel
theorem dX8_listen_15 : decode cX8_listen 15 = .ok (.iconst 3, 1) := by decide +kernel
theorem dX8_listen_16 : decode cX8_listen 16 = .ok (.irem, 1) := by decide +kernel
theorem dX8_listen_17 : decode cX8_listen 17 = .ok (.ifCond .eq 4, 3) := by decide +kernel
theorem dX8_listen_20 : decode cX8_listen 20 = .ok (.return_, 1) := by decide +kernel
theorem dX8_listen_21 : decode cX8_listen 21 = .ok (.iconst 0, 1) := by decide +kernel
theorem dX8_listen_22 : decode cX8_listen 22 = .ok (.istore_n 2, 1) := by decide +kernel
theorem dX8_listen_23 : decode cX8_listen 23 = .ok (.iload_n 2, 1) := by decide +kernel
theorem dX8_listen_24 : decode cX8_listen 24 = .ok (.aload_n 1, 1) := by decide +kernel
theorem dX8_listen_25 : decode cX8_listen 25 = .ok (.getfield 44, 3) := by decide +kernel
theorem dX8_listen_28 : decode cX8_listen 28 = .ok (.iconst 3, 1) := by decide +kernel
theorem dX8_listen_29 : decode cX8_listen 29 = .ok (.isub, 1) := by decide +kernel
theorem dX8_listen_30 : decode cX8_listen 30 = .ok (.if_icmp .gt 36, 3) := by decide +kernel
theorem dX8_listen_33 : decode cX8_listen 33 = .ok (.aload_n 1, 1) := by decide +kernel
theorem dX8_listen_34 : decode cX8_listen 34 = .ok (.getfield 49, 3) := by decide +kernel
theorem dX8_listen_37 : decode cX8_listen 37 = .ok (.iload_n 2, 1) := by decide +kernel
theorem dX8_listen_38 : decode cX8_listen 38 = .ok (.laload, 1) := by decide +kernel
theorem dX8_listen_39 : decode cX8_listen 39 = .ok (.invokestatic 65, 3) := by decide +kernel
theorem dX8_listen_42 : decode cX8_listen 42 = .ok (.ifCond .eq 17, 3) := by decide +kernel
theorem dX8_listen_45 : decode cX8_listen 45 = .ok (.aload_n 1, 1) := by decide +kernel
theorem dX8_listen_46 : decode cX8_listen 46 = .ok (.getfield 49, 3) := by decide +kernel
theorem dX8_listen_49 : decode cX8_listen 49 = .ok (.iload_n 2, 1) := by decide +kernel
theorem dX8_listen_50 : decode cX8_listen 50 = .ok (.iconst 1, 1) := by decide +kernel
theorem dX8_listen_51 : decode cX8_listen 51 = .ok (.iadd, 1) := by decide +kernel
theorem dX8_listen_52 : decode cX8_listen 52 = .ok (.laload, 1) := by decide +kernel
theorem dX8_listen_53 : decode cX8_listen 53 = .ok (.invokestatic 65, 3) := by decide +kernel
theorem dX8_listen_56 : decode cX8_listen 56 = .ok (.ifCond .ne 4, 3) := by decide +kernel
theorem dX8_listen_59 : decode cX8_listen 59 = .ok (.return_, 1) := by decide +kernel
theorem dX8_listen_60 : decode cX8_listen 60 = .ok (.iinc 2 3, 3) := by decide +kernel
theorem dX8_listen_63 : decode cX8_listen 63 = .ok (.goto (-40), 3) := by decide +kernel
theorem dX8_listen_66 : decode cX8_listen 66 = .ok (.iconst 0, 1) := by decide +kernel
theorem dX8_listen_67 : decode cX8_listen 67 = .ok (.istore_n 2, 1) := by decide +kernel
theorem dX8_listen_68 : decode cX8_listen 68 = .ok (.iload_n 2, 1) := by decide +kernel
theorem dX8_listen_69 : decode cX8_listen 69 = .ok (.sipush 400, 3) := by decide +kernel
theorem dX8_listen_72 : decode cX8_listen 72 = .ok (.if_icmp .ge 68, 3) := by decide +kernel
theorem dX8_listen_75 : decode cX8_listen 75 = .ok (.aload_n 0, 1) := by decide +kernel
theorem dX8_listen_76 : decode cX8_listen 76 = .ok (.aload_n 1, 1) := by decide +kernel
theorem dX8_listen_77 : decode cX8_listen 77 = .ok (.iload_n 2, 1) := by decide +kernel
theorem dX8_listen_78 : decode cX8_listen 78 = .ok (.invokevirtual 81, 3) := by decide +kernel
theorem dX8_listen_81 : decode cX8_listen 81 = .ok (.istore_n 3, 1) := by decide +kernel
theorem dX8_listen_82 : decode cX8_listen 82 = .ok (.iload_n 3, 1) := by decide +kernel
theorem dX8_listen_83 : decode cX8_listen 83 = .ok (.ifCond .lt 51, 3) := by decide +kernel
theorem dX8_listen_86 : decode cX8_listen 86 = .ok (.aload_n 0, 1) := by decide +kernel
theorem dX8_listen_87 : decode cX8_listen 87 = .ok (.aload_n 0, 1) := by decide +kernel
theorem dX8_listen_88 : decode cX8_listen 88 = .ok (.getfield 22, 3) := by decide +kernel
theorem dX8_listen_91 : decode cX8_listen 91 = .ok (.ifCond .ne 7, 3) := by decide +kernel
theorem dX8_listen_94 : decode cX8_listen 94 = .ok (.iload_n 3, 1) := by decide +kernel
theorem dX8_listen_95 : decode cX8_listen 95 = .ok (.goto 7, 3) := by decide +kernel
theorem dX8_listen_98 : decode cX8_listen 98 = .ok (.aload_n 0, 1) := by decide +kernel
theorem dX8_listen_99 : decode cX8_listen 99 = .ok (.getfield 32, 3) := by decide +kernel
theorem dX8_listen_102 : decode cX8_listen 102 = .ok (.putfield 32, 3) := by decide +kernel
theorem dX8_listen_105 : decode cX8_listen 105 = .ok (.aload_n 0, 1) := by decide +kernel
theorem dX8_listen_106 : decode cX8_listen 106 = .ok (.aload_n 0, 1) := by decide +kernel
theorem dX8_listen_107 : decode cX8_listen 107 = .ok (.getfield 22, 3) := by decide +kernel
theorem dX8_listen_110 : decode cX8_listen 110 = .ok (.ifCond .ne 7, 3) := by decide +kernel
theorem dX8_listen_113 : decode cX8_listen 113 = .ok (.iload_n 2, 1) := by decide +kernel
theorem dX8_listen_114 : decode cX8_listen 114 = .ok (.goto 7, 3) := by decide +kernel
theorem dX8_listen_117 : decode cX8_listen 117 = .ok (.aload_n 0, 1) := by decide +kernel
theorem dX8_listen_118 : decode cX8_listen 118 = .ok (.getfield 26, 3) := by decide +kernel
theorem dX8_listen_121 : decode cX8_listen 121 = .ok (.putfield 26, 3) := by decide +kernel
theorem dX8_listen_124 : decode cX8_listen 124 = .ok (.aload_n 0, 1) := by decide +kernel
theorem dX8_listen_125 : decode cX8_listen 125 = .ok (.dup, 1) := by decide +kernel
theorem dX8_listen_126 : decode cX8_listen 126 = .ok (.getfield 22, 3) := by decide +kernel
theorem dX8_listen_129 : decode cX8_listen 129 = .ok (.iconst 1, 1) := by decide +kernel
theorem dX8_listen_130 : decode cX8_listen 130 = .ok (.iadd, 1) := by decide +kernel
theorem dX8_listen_131 : decode cX8_listen 131 = .ok (.putfield 22, 3) := by decide +kernel
theorem dX8_listen_134 : decode cX8_listen 134 = .ok (.iinc 2 1, 3) := by decide +kernel
theorem dX8_listen_137 : decode cX8_listen 137 = .ok (.goto (-69), 3) := by decide +kernel
theorem dX8_listen_140 : decode cX8_listen 140 = .ok (.return_, 1) := by decide +kernel
theorem ok_yX8_listen : yOk yX8_listen 1 := ⟨by decide +kernel, by decide +kernel, by decide +kernel⟩
def fX8_listen_102 (kB68 : St → Nat → Int32 → Option (St)) (n : Nat) (st : St) (j1 : Nat) (v2 : Int32) (w1 : Int32) : Option (St) := bnd (sI st 36 3 w1) (fun st19 => if gI st19 36 0 = 0 then (bnd (sI st19 36 1 v2) (fun st28 => bnd (sI st28 36 0 ((gI st28 36 0) + (1 : Int32))) (fun st30 => bnd (v2 + (1 : Int32)) (fun x32 => kB68 st30 j1 x32)))) else (bnd (sI st19 36 1 (gI st19 36 1)) (fun st22 => bnd (sI st22 36 0 ((gI st22 36 0) + (1 : Int32))) (fun st24 => bnd (v2 + (1 : Int32)) (fun x26 => kB68 st24 j1 x26)))))
set_option maxHeartbeats 4000000 in
theorem tX8_listen_102 {p : Program} {l : Launch} {e : Env} {s : State} {m : MethodId} {args : Array Value} {below : List Frame} {meth : Method} {c : Code} {X : WX} (C : Amb 65 X p s m args meth c cX8_listen 4 RX8) (hr : meth.sig.returnType = none) {R : St} {n : Nat} {kB68 : St → Nat → Int32 → Option (St)} (hB68 : ∀ (st : St) (j1 : Nat) (v2 : Int32) (H : Heap) (locs : List Loc) (ls : Array Slot), j1 < 6 → Wd EC 65 X s.heap st H locs → lv_has ls 4 [(0, .ref (xq X 36)), (1, .ref (xq X (53 + 2 * j1))), (2, .int v2)] → kB68 st j1 v2 = some R → W p l e { frames := 2, cells := 0, slots := 0, locals := 47 } s m args below meth c H locs 0 0 (QV EC 65 X R below args s) (F0 m 68 ls [])) : ∀ (st : St) (j1 : Nat) (v2 : Int32) (w1 : Int32) (H : Heap) (locs : List Loc) (ls : Array Slot), j1 < 6 → Wd EC 65 X s.heap st H locs → lv_has ls 4 [(0, .ref (xq X 36)), (1, .ref (xq X (53 + 2 * j1))), (2, .int v2)] → fX8_listen_102 kB68 n st j1 v2 w1 = some R → W p l e { frames := 2, cells := 0, slots := 0, locals := 47 } s m args below meth c H locs 0 0 (QV EC 65 X R below args s) (F0 m 102 ls [.int w1, .ref (xq X 36)]) := by
  obtain ⟨hx, hb, hml, hown, hts⟩ := id C.1
  intro st j1 v2 w1 H locs ls hj1 hw hl hf
  unfold fX8_listen_102 at hf
  obtain ⟨st19, es20⟩ : ∃ z : St, z = sI st 36 3 w1 := ⟨_, rfl⟩
  replace hf := bnd_nm hf es20
  refine w_puti (T := TX8) C hw (by decide) 3 kf_X8_32 (EC_36 X _ _) rfl inA8 tyX8_ok nmX8 (by decide) rfl rfl (Nat.le_of_ble_eq_true rfl) rfl dX8_listen_102 (fun H locs hw => ?_)
  rw [← es20] at hw
  refine lv_aload_n hx hb dX8_listen_105 rfl (lv_at hl 0 rfl) ?_
  refine lv_aload_n hx hb dX8_listen_106 rfl (lv_at hl 0 rfl) ?_
  refine w_get (T := TX8) C hw (by decide) 0 kf_X8_22 (EC_36 X _ _) rfl inA8 (by decide) rfl dX8_listen_107 ?_
  refine lv_if_ne (tgt := 117) hx hb dX8_listen_110 (by decide) (fun c21 => ?_) (fun c21 => ?_)
  · replace hf := ite_f hf c21
    refine lv_aload_n hx hb dX8_listen_117 rfl (lv_at hl 0 rfl) ?_
    refine w_get (T := TX8) C hw (by decide) 1 kf_X8_26 (EC_36 X _ _) rfl inA8 (by decide) rfl dX8_listen_118 ?_
    obtain ⟨st22, es23⟩ : ∃ z : St, z = sI st19 36 1 (gI st19 36 1) := ⟨_, rfl⟩
    replace hf := bnd_nm hf es23
    refine w_puti (T := TX8) C hw (by decide) 1 kf_X8_26 (EC_36 X _ _) rfl inA8 tyX8_ok nmX8 (by decide) rfl rfl (Nat.le_of_ble_eq_true rfl) rfl dX8_listen_121 (fun H locs hw => ?_)
    rw [← es23] at hw
    refine lv_aload_n hx hb dX8_listen_124 rfl (lv_at hl 0 rfl) ?_
    refine lv_dup hx hb dX8_listen_125 rfl ?_
    refine w_get (T := TX8) C hw (by decide) 0 kf_X8_22 (EC_36 X _ _) rfl inA8 (by decide) rfl dX8_listen_126 ?_
    refine lv_iconst (v := 1) hx hb dX8_listen_129 (by decide) ?_
    refine lv_iadd hx hb dX8_listen_130 ?_
    obtain ⟨st24, es25⟩ : ∃ z : St, z = sI st22 36 0 ((gI st22 36 0) + (1 : Int32)) := ⟨_, rfl⟩
    replace hf := bnd_nm hf es25
    refine w_puti (T := TX8) C hw (by decide) 0 kf_X8_22 (EC_36 X _ _) rfl inA8 tyX8_ok nmX8 (by decide) rfl rfl (Nat.le_of_ble_eq_true rfl) rfl dX8_listen_131 (fun H locs hw => ?_)
    rw [← es25] at hw
    obtain ⟨x26, e27⟩ : ∃ z : Int32, z = v2 + (1 : Int32) := ⟨_, rfl⟩
    replace hf := bnd_nm hf e27
    refine lv_iinc (v := x26) (lv' := [(2, .int x26), (0, .ref (xq X 36)), (1, .ref (xq X (53 + 2 * j1)))]) hx hb dX8_listen_134 hl (k := 2) rfl (by rw [e27]; rfl) (by decide) rfl (fun ls hl => ?_)
    refine lv_goto (tgt := 68) hx hb dX8_listen_137 (by decide) ?_
    exact hB68 st24 j1 x26 _ _ _ hj1 hw (lv_sub hl [1, 2, 0] rfl) hf
  · replace hf := ite_t hf c21
    refine lv_iload_n hx hb dX8_listen_113 rfl (lv_at hl 2 rfl) ?_
    refine lv_goto (tgt := 121) hx hb dX8_listen_114 (by decide) ?_
    obtain ⟨st28, es29⟩ : ∃ z : St, z = sI st19 36 1 v2 := ⟨_, rfl⟩
    replace hf := bnd_nm hf es29
    refine w_puti (T := TX8) C hw (by decide) 1 kf_X8_26 (EC_36 X _ _) rfl inA8 tyX8_ok nmX8 (by decide) rfl rfl (Nat.le_of_ble_eq_true rfl) rfl dX8_listen_121 (fun H locs hw => ?_)
    rw [← es29] at hw
    refine lv_aload_n hx hb dX8_listen_124 rfl (lv_at hl 0 rfl) ?_
    refine lv_dup hx hb dX8_listen_125 rfl ?_
    refine w_get (T := TX8) C hw (by decide) 0 kf_X8_22 (EC_36 X _ _) rfl inA8 (by decide) rfl dX8_listen_126 ?_
    refine lv_iconst (v := 1) hx hb dX8_listen_129 (by decide) ?_
    refine lv_iadd hx hb dX8_listen_130 ?_
    obtain ⟨st30, es31⟩ : ∃ z : St, z = sI st28 36 0 ((gI st28 36 0) + (1 : Int32)) := ⟨_, rfl⟩
    replace hf := bnd_nm hf es31
    refine w_puti (T := TX8) C hw (by decide) 0 kf_X8_22 (EC_36 X _ _) rfl inA8 tyX8_ok nmX8 (by decide) rfl rfl (Nat.le_of_ble_eq_true rfl) rfl dX8_listen_131 (fun H locs hw => ?_)
    rw [← es31] at hw
    obtain ⟨x32, e33⟩ : ∃ z : Int32, z = v2 + (1 : Int32) := ⟨_, rfl⟩
    replace hf := bnd_nm hf e33
    refine lv_iinc (v := x32) (lv' := [(2, .int x32), (0, .ref (xq X 36)), (1, .ref (xq X (53 + 2 * j1)))]) hx hb dX8_listen_134 hl (k := 2) rfl (by rw [e33]; rfl) (by decide) rfl (fun ls hl => ?_)
    refine lv_goto (tgt := 68) hx hb dX8_listen_137 (by decide) ?_
    exact hB68 st30 j1 x32 _ _ _ hj1 hw (lv_sub hl [1, 2, 0] rfl) hf
def fX8_listen_68 (n : Nat) : Nat → St → Nat → Int32 → Option (St)
  | 0, _, _, _ => none
  | k + 1, st, j1, v2 => if (400 : Int32) ≤ v2 then (some st) else ((fX8_minuteCried n st j1 v2).bind (fun r13 => if r13 < 0 then (bnd (v2 + (1 : Int32)) (fun x16 => fX8_listen_68 n k st j1 x16)) else (if gI st 36 0 = 0 then (fX8_listen_102 (fX8_listen_68 n k) n st j1 v2 r13) else (fX8_listen_102 (fX8_listen_68 n k) n st j1 v2 (gI st 36 3)))))
set_option maxHeartbeats 4000000 in
theorem tX8_listen_68 {p : Program} {l : Launch} {e : Env} {s : State} {m : MethodId} {args : Array Value} {below : List Frame} {meth : Method} {c : Code} {X : WX} (C : Amb 65 X p s m args meth c cX8_listen 4 RX8) (hr : meth.sig.returnType = none) {R : St} {n : Nat} : ∀ (k : Nat) (st : St) (j1 : Nat) (v2 : Int32) (H : Heap) (locs : List Loc) (ls : Array Slot), j1 < 6 → Wd EC 65 X s.heap st H locs → lv_has ls 4 [(0, .ref (xq X 36)), (1, .ref (xq X (53 + 2 * j1))), (2, .int v2)] → fX8_listen_68 n k st j1 v2 = some R → W p l e { frames := 2, cells := 0, slots := 0, locals := 47 } s m args below meth c H locs 0 0 (QV EC 65 X R below args s) (F0 m 68 ls []) := by
  obtain ⟨hx, hb, hml, hown, hts⟩ := id C.1
  intro k
  induction k with
  | zero => intro st j1 v2 H locs ls hj1 hw hl hf; exact absurd (show none = some R from hf) (fun z => by cases z)
  | succ k ih =>
    intro st j1 v2 H locs ls hj1 hw hl hf
    rw [fX8_listen_68] at hf
    refine lv_iload_n hx hb dX8_listen_68 rfl (lv_at hl 2 rfl) ?_
    refine lv_sipush (v := 400) hx hb dX8_listen_69 (by decide) ?_
    refine lv_icmp_ge (tgt := 140) hx hb dX8_listen_72 (by decide) (fun c12 => ?_) (fun c12 => ?_)
    · replace hf := ite_t hf c12
      exact w_vret C hw hr (Option.some.inj hf) dX8_listen_140
    · replace hf := ite_f hf c12
      refine lv_aload_n hx hb dX8_listen_75 rfl (lv_at hl 0 rfl) ?_
      refine lv_aload_n hx hb dX8_listen_76 rfl (lv_at hl 1 rfl) ?_
      refine lv_iload_n hx hb dX8_listen_77 rfl (lv_at hl 2 rfl) ?_
      obtain ⟨r13, k14, hf⟩ := bd_some hf
      refine w_goI hw (w_runV (rest := []) C hw (zX8_minuteCried _ _ n st j1 v2 hj1 r13 k14) (by decide) (EC_36 X _ _) rfl km_X8_81 ki_yX8_minuteCried kv_X8_minuteCried kz_X8 kc_X8_minuteCried rfl ok_yX8_minuteCried ⟨Nat.le_of_ble_eq_true rfl, Nat.le_of_ble_eq_true rfl⟩ rfl rfl rfl rfl hl.1 (Nat.le_of_ble_eq_true rfl) dX8_listen_78 ⟨Nat.zero_le _, Nat.zero_le _⟩) (fun H locs hw => ?_)
      refine lv_istore_n (lv' := [(3, .int r13), (0, .ref (xq X 36)), (1, .ref (xq X (53 + 2 * j1))), (2, .int v2)]) hx hb dX8_listen_81 rfl hl (by decide) rfl (fun ls hl => ?_)
      refine lv_iload_n hx hb dX8_listen_82 rfl (lv_at hl 0 rfl) ?_
      refine lv_if_lt (tgt := 134) hx hb dX8_listen_83 (by decide) (fun c15 => ?_) (fun c15 => ?_)
      · replace hf := ite_t hf c15
        obtain ⟨x16, e17⟩ : ∃ z : Int32, z = v2 + (1 : Int32) := ⟨_, rfl⟩
        replace hf := bnd_nm hf e17
        refine lv_iinc (v := x16) (lv' := [(2, .int x16), (3, .int r13), (0, .ref (xq X 36)), (1, .ref (xq X (53 + 2 * j1)))]) hx hb dX8_listen_134 hl (k := 3) rfl (by rw [e17]; rfl) (by decide) rfl (fun ls hl => ?_)
        refine lv_goto (tgt := 68) hx hb dX8_listen_137 (by decide) ?_
        exact ih st j1 x16 _ _ _ hj1 hw (lv_sub hl [2, 3, 0] rfl) hf
      · replace hf := ite_f hf c15
        refine lv_aload_n hx hb dX8_listen_86 rfl (lv_at hl 1 rfl) ?_
        refine lv_aload_n hx hb dX8_listen_87 rfl (lv_at hl 1 rfl) ?_
        refine w_get (T := TX8) C hw (by decide) 0 kf_X8_22 (EC_36 X _ _) rfl inA8 (by decide) rfl dX8_listen_88 ?_
        refine lv_if_ne (tgt := 98) hx hb dX8_listen_91 (by decide) (fun c18 => ?_) (fun c18 => ?_)
        · replace hf := ite_f hf c18
          refine lv_aload_n hx hb dX8_listen_98 rfl (lv_at hl 1 rfl) ?_
          refine w_get (T := TX8) C hw (by decide) 3 kf_X8_32 (EC_36 X _ _) rfl inA8 (by decide) rfl dX8_listen_99 ?_
          exact tX8_listen_102 C hr ih st j1 v2 (gI st 36 3) _ _ _ hj1 hw (lv_sub hl [1, 2, 3] rfl) hf
        · replace hf := ite_t hf c18
          refine lv_iload_n hx hb dX8_listen_94 rfl (lv_at hl 0 rfl) ?_
          refine lv_goto (tgt := 102) hx hb dX8_listen_95 (by decide) ?_
          exact tX8_listen_102 C hr ih st j1 v2 r13 _ _ _ hj1 hw (lv_sub hl [1, 2, 3] rfl) hf
def fX8_listen_23 (n : Nat) : Nat → St → Nat → Int32 → Option (St)
  | 0, _, _, _ => none
  | k + 1, st, j1, v2 => if (gI st (53 + 2 * j1) 3) - (3 : Int32) < v2 then (fX8_listen_68 n n st j1 (0 : Int32)) else (gd (inB v2 60) (if bI (fX11_isSide (gL st (54 + 2 * j1) v2.toNatClampNeg)) = 0 then (some st) else (gd (inB (v2 + (1 : Int32)) 60) (if bI (fX11_isSide (gL st (54 + 2 * j1) (v2 + (1 : Int32)).toNatClampNeg)) = 0 then (some st) else (bnd (v2 + (3 : Int32)) (fun x10 => fX8_listen_23 n k st j1 x10))))))
set_option maxHeartbeats 4000000 in
theorem tX8_listen_23 {p : Program} {l : Launch} {e : Env} {s : State} {m : MethodId} {args : Array Value} {below : List Frame} {meth : Method} {c : Code} {X : WX} (C : Amb 65 X p s m args meth c cX8_listen 4 RX8) (hr : meth.sig.returnType = none) {R : St} {n : Nat} : ∀ (k : Nat) (st : St) (j1 : Nat) (v2 : Int32) (H : Heap) (locs : List Loc) (ls : Array Slot), j1 < 6 → Wd EC 65 X s.heap st H locs → lv_has ls 4 [(0, .ref (xq X 36)), (1, .ref (xq X (53 + 2 * j1))), (2, .int v2)] → fX8_listen_23 n k st j1 v2 = some R → W p l e { frames := 2, cells := 0, slots := 0, locals := 47 } s m args below meth c H locs 0 0 (QV EC 65 X R below args s) (F0 m 23 ls []) := by
  obtain ⟨hx, hb, hml, hown, hts⟩ := id C.1
  intro k
  induction k with
  | zero => intro st j1 v2 H locs ls hj1 hw hl hf; exact absurd (show none = some R from hf) (fun z => by cases z)
  | succ k ih =>
    intro st j1 v2 H locs ls hj1 hw hl hf
    rw [fX8_listen_23] at hf
    refine lv_iload_n hx hb dX8_listen_23 rfl (lv_at hl 2 rfl) ?_
    refine lv_aload_n hx hb dX8_listen_24 rfl (lv_at hl 1 rfl) ?_
    refine w_get (T := TX7) C hw (by have := hj1; omega) 3 kf_X8_44 (EC_sh X hj1 _ _) rfl inA7 (by decide) rfl dX8_listen_25 ?_
    refine lv_iconst (v := 3) hx hb dX8_listen_28 (by decide) ?_
    refine lv_isub hx hb dX8_listen_29 ?_
    refine lv_icmp_gt (tgt := 66) hx hb dX8_listen_30 (by decide) (fun c5 => ?_) (fun c5 => ?_)
    · replace hf := ite_t hf c5
      refine lv_iconst (v := 0) hx hb dX8_listen_66 (by decide) ?_
      refine lv_istore_n (lv' := [(2, .int (0 : Int32)), (0, .ref (xq X 36)), (1, .ref (xq X (53 + 2 * j1)))]) hx hb dX8_listen_67 rfl hl (by decide) rfl (fun ls hl => ?_)
      exact tX8_listen_68 C hr n st j1 (0 : Int32) _ _ _ hj1 hw (lv_sub hl [1, 2, 0] rfl) hf
    · replace hf := ite_f hf c5
      refine lv_aload_n hx hb dX8_listen_33 rfl (lv_at hl 1 rfl) ?_
      refine w_get (T := TX7) C hw (by have := hj1; omega) 4 kf_X8_49 (EC_sh X hj1 _ _) rfl inA7 (by decide) rfl dX8_listen_34 ?_
      refine lv_iload_n hx hb dX8_listen_37 rfl (lv_at hl 2 rfl) ?_
      obtain ⟨h6, hf⟩ := gd_some hf
      refine w_lald C hw (by have := hj1; omega) (EC_el X hj1 _ _) h6 rfl dX8_listen_38 ?_
      refine w_goI hw (w_runSN (rest := []) C hw (zX11_isSide _ _ st (gL st (54 + 2 * j1) v2.toNatClampNeg)) C.2.2.1.1.2.2 kt_yX11_isSide kz_X11 kc_X11_isSide ok_yX11_isSide ⟨Nat.le_of_ble_eq_true rfl, Nat.le_of_ble_eq_true rfl⟩ rfl rfl rfl rfl hl.1 (Nat.le_of_ble_eq_true rfl) dX8_listen_39 ⟨Nat.zero_le _, Nat.zero_le _⟩) (fun H locs hw => ?_)
      refine lv_if_eq (tgt := 59) hx hb dX8_listen_42 (by decide) (fun c7 => ?_) (fun c7 => ?_)
      · replace hf := ite_t hf c7
        exact w_vret C hw hr (Option.some.inj hf) dX8_listen_59
      · replace hf := ite_f hf c7
        refine lv_aload_n hx hb dX8_listen_45 rfl (lv_at hl 1 rfl) ?_
        refine w_get (T := TX7) C hw (by have := hj1; omega) 4 kf_X8_49 (EC_sh X hj1 _ _) rfl inA7 (by decide) rfl dX8_listen_46 ?_
        refine lv_iload_n hx hb dX8_listen_49 rfl (lv_at hl 2 rfl) ?_
        refine lv_iconst (v := 1) hx hb dX8_listen_50 (by decide) ?_
        refine lv_iadd hx hb dX8_listen_51 ?_
        obtain ⟨h8, hf⟩ := gd_some hf
        refine w_lald C hw (by have := hj1; omega) (EC_el X hj1 _ _) h8 rfl dX8_listen_52 ?_
        refine w_goI hw (w_runSN (rest := []) C hw (zX11_isSide _ _ st (gL st (54 + 2 * j1) (v2 + (1 : Int32)).toNatClampNeg)) C.2.2.1.1.2.2 kt_yX11_isSide kz_X11 kc_X11_isSide ok_yX11_isSide ⟨Nat.le_of_ble_eq_true rfl, Nat.le_of_ble_eq_true rfl⟩ rfl rfl rfl rfl hl.1 (Nat.le_of_ble_eq_true rfl) dX8_listen_53 ⟨Nat.zero_le _, Nat.zero_le _⟩) (fun H locs hw => ?_)
        refine lv_if_ne (tgt := 60) hx hb dX8_listen_56 (by decide) (fun c9 => ?_) (fun c9 => ?_)
        · replace hf := ite_f hf c9
          obtain ⟨x10, e11⟩ : ∃ z : Int32, z = v2 + (3 : Int32) := ⟨_, rfl⟩
          replace hf := bnd_nm hf e11
          refine lv_iinc (v := x10) (lv' := [(2, .int x10), (0, .ref (xq X 36)), (1, .ref (xq X (53 + 2 * j1)))]) hx hb dX8_listen_60 hl (k := 2) rfl (by rw [e11]; rfl) (by decide) rfl (fun ls hl => ?_)
          refine lv_goto (tgt := 23) hx hb dX8_listen_63 (by decide) ?_
          exact ih st j1 x10 _ _ _ hj1 hw (lv_sub hl [1, 2, 0] rfl) hf
        · replace hf := ite_t hf c9
          exact w_vret C hw hr (Option.some.inj hf) dX8_listen_59
def fX8_listen (n : Nat) (st : St) (i1 : Nat) : Option (St) := bnd (fX8_forget st) (fun r1 => if gI r1 (53 + 2 * i1) 3 = 0 then (some r1) else (if rmI (gI r1 (53 + 2 * i1) 3) (3 : Int32) = 0 then (fX8_listen_23 n n r1 i1 (0 : Int32)) else (some r1)))
set_option maxHeartbeats 4000000 in
theorem zX8_listen (l : Launch) (X : WX) (n : Nat) (st : St) (i1 : Nat) (hi1 : i1 < 6) (R : St) (hf : fX8_listen n st i1 = some R) : CtV l yX8_listen cX8_listen 4 ({ frames := 2, cells := 0, slots := 0, locals := 47 }) EC 65 X [.ref (xq X 36), .ref (xq X (53 + 2 * i1))] st R := by
  refine ct_in (own := RX8) (by decide +kernel) rfl (Nat.le_of_ble_eq_true rfl) (fun p e s m below meth c C hr hw ls hl => ?_)
  obtain ⟨hx, hb, hml, hown, hts⟩ := id C.1
  have hl : lv_has ls 4 [(0, .ref (xq X 36)), (1, .ref (xq X (53 + 2 * i1)))] := hl
  unfold fX8_listen at hf
  refine lv_aload_n hx hb dX8_listen_0 rfl (lv_at hl 0 rfl) ?_
  obtain ⟨r1, k2⟩ : ∃ z : St, z = fX8_forget st := ⟨_, rfl⟩
  replace hf := bnd_nm hf k2
  refine w_goV hw (w_runV (rest := []) C hw (zX8_forget _ _ st r1 k2.symm) (by decide) (EC_36 X _ _) rfl km_X8_41 ki_yX8_forget kv_X8_forget kz_X8 kc_X8_forget rfl ok_yX8_forget ⟨Nat.le_of_ble_eq_true rfl, Nat.le_of_ble_eq_true rfl⟩ rfl rfl rfl rfl hl.1 (Nat.le_of_ble_eq_true rfl) dX8_listen_1 ⟨Nat.zero_le _, Nat.zero_le _⟩) (fun H locs hw => ?_)
  refine lv_aload_n hx hb dX8_listen_4 rfl (lv_at hl 1 rfl) ?_
  refine w_get (T := TX7) C hw (by have := hi1; omega) 3 kf_X8_44 (EC_sh X hi1 _ _) rfl inA7 (by decide) rfl dX8_listen_5 ?_
  refine lv_if_eq (tgt := 20) hx hb dX8_listen_8 (by decide) (fun c3 => ?_) (fun c3 => ?_)
  · replace hf := ite_t hf c3
    exact w_vret C hw hr (Option.some.inj hf) dX8_listen_20
  · replace hf := ite_f hf c3
    refine lv_aload_n hx hb dX8_listen_11 rfl (lv_at hl 1 rfl) ?_
    refine w_get (T := TX7) C hw (by have := hi1; omega) 3 kf_X8_44 (EC_sh X hi1 _ _) rfl inA7 (by decide) rfl dX8_listen_12 ?_
    refine lv_iconst (v := 3) hx hb dX8_listen_15 (by decide) ?_
    refine w_irem C (by decide) dX8_listen_16 ?_
    refine lv_if_eq (tgt := 21) hx hb dX8_listen_17 (by decide) (fun c4 => ?_) (fun c4 => ?_)
    · replace hf := ite_t hf c4
      refine lv_iconst (v := 0) hx hb dX8_listen_21 (by decide) ?_
      refine lv_istore_n (lv' := [(2, .int (0 : Int32)), (0, .ref (xq X 36)), (1, .ref (xq X (53 + 2 * i1)))]) hx hb dX8_listen_22 rfl hl (by decide) rfl (fun ls hl => ?_)
      exact tX8_listen_23 C hr n r1 i1 (0 : Int32) _ _ _ hi1 hw (lv_sub hl [1, 2, 0] rfl) hf
    · replace hf := ite_f hf c4
      exact w_vret C hw hr (Option.some.inj hf) dX8_listen_20
