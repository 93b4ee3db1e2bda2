theorem dX6_countIf_0 : decode cX6_countIf 0 = .ok (.aload_n 0, 1) := by decide +kernel
theorem dX6_countIf_1 : decode cX6_countIf 1 = .ok (.getfield 20, 3) := by decide +kernel
theorem dX6_countIf_4 : decode cX6_countIf 4 = .ok (.getfield 39, 3) := by decide +kernel
theorem dX6_countIf_7 : decode cX6_countIf 7 = .ok (.astore 4, 2) := by decide +kernel
theorem dX6_countIf_9 : decode cX6_countIf 9 = .ok (.aload 4, 2) := by decide +kernel
theorem dX6_countIf_11 : decode cX6_countIf 11 = .ok (.bipush 8, 2) := by decide +kernel
theorem dX6_countIf_13 : decode cX6_countIf 13 = .ok (.aaload, 1) := by decide +kernel
theorem dX6_countIf_14 : decode cX6_countIf 14 = .ok (.iload_n 1, 1) := by decide +kernel
theorem dX6_countIf_15 : decode cX6_countIf 15 = .ok (.iaload, 1) := by decide +kernel
theorem dX6_countIf_16 : decode cX6_countIf 16 = .ok (.aload 4, 2) := by decide +kernel
theorem dX6_countIf_18 : decode cX6_countIf 18 = .ok (.bipush 11, 2) := by decide +kernel
theorem dX6_countIf_20 : decode cX6_countIf 20 = .ok (.aaload, 1) := by decide +kernel
theorem dX6_countIf_21 : decode cX6_countIf 21 = .ok (.iload_n 3, 1) := by decide +kernel
theorem dX6_countIf_22 : decode cX6_countIf 22 = .ok (.iaload, 1) := by decide +kernel
theorem dX6_countIf_23 : decode cX6_countIf 23 = .ok (.isub, 1) := by decide +kernel
theorem dX6_countIf_24 : decode cX6_countIf 24 = .ok (.istore 5, 2) := by decide +kernel
theorem dX6_countIf_26 : decode cX6_countIf 26 = .ok (.aload 4, 2) := by decide +kernel
theorem dX6_countIf_28 : decode cX6_countIf 28 = .ok (.bipush 10, 2) := by decide +kernel
theorem dX6_countIf_30 : decode cX6_countIf 30 = .ok (.aaload, 1) := by decide +kernel
theorem dX6_countIf_31 : decode cX6_countIf 31 = .ok (.iload_n 3, 1) := by decide +kernel
theorem dX6_countIf_32 : decode cX6_countIf 32 = .ok (.iaload, 1) := by decide +kernel
theorem dX6_countIf_33 : decode cX6_countIf 33 = .ok (.iload_n 2, 1) := by decide +kernel
theorem dX6_countIf_34 : decode cX6_countIf 34 = .ok (.if_icmp .ne 7, 3) := by decide +kernel
theorem dX6_countIf_37 : decode cX6_countIf 37 = .ok (.iconst 1, 1) := by decide +kernel
theorem dX6_countIf_38 : decode cX6_countIf 38 = .ok (.goto 4, 3) := by decide +kernel
theorem dX6_countIf_41 : decode cX6_countIf 41 = .ok (.iconst 0, 1) := by decide +kernel
theorem dX6_countIf_42 : decode cX6_countIf 42 = .ok (.istore 6, 2) := by decide +kernel
theorem dX6_countIf_44 : decode cX6_countIf 44 = .ok (.aload_n 0, 1) := by decide +kernel
theorem dX6_countIf_45 : decode cX6_countIf 45 = .ok (.getfield 24, 3) := by decide +kernel
theorem dX6_countIf_48 : decode cX6_countIf 48 = .ok (.iload 5, 2) := by decide +kernel
theorem dX6_countIf_50 : decode cX6_countIf 50 = .ok (.invokestatic 43, 3) := by decide +kernel
theorem dX6_countIf_53 : decode cX6_countIf 53 = .ok (.aload 4, 2) := by decide +kernel
theorem dX6_countIf_55 : decode cX6_countIf 55 = .ok (.bipush 9, 2) := by decide +kernel
theorem dX6_countIf_57 : decode cX6_countIf 57 = .ok (.aaload, 1) := by decide +kernel
theorem dX6_countIf_58 : decode cX6_countIf 58 = .ok (.iload_n 1, 1) := by decide +kernel
theorem dX6_countIf_59 : decode cX6_countIf 59 = .ok (.iaload, 1) := by decide +kernel
theorem dX6_countIf_60 : decode cX6_countIf 60 = .ok (.aload 4, 2) := by decide +kernel
theorem dX6_countIf_62 : decode cX6_countIf 62 = .ok (.bipush 12, 2) := by decide +kernel
theorem dX6_countIf_64 : decode cX6_countIf 64 = .ok (.aaload, 1) := by decide +kernel
theorem dX6_countIf_65 : decode cX6_countIf 65 = .ok (.iload_n 3, 1) := by decide +kernel
theorem dX6_countIf_66 : decode cX6_countIf 66 = .ok (.iaload, 1) := by decide +kernel
theorem dX6_countIf_67 : decode cX6_countIf 67 = .ok (.aload 4, 2) := by decide +kernel
theorem dX6_countIf_69 : decode cX6_countIf 69 = .ok (.bipush 13, 2) := by decide +kernel
theorem dX6_countIf_71 : decode cX6_countIf 71 = .ok (.aaload, 1) := by decide +kernel
theorem dX6_countIf_72 : decode cX6_countIf 72 = .ok (.iload_n 3, 1) := by decide +kernel
theorem dX6_countIf_73 : decode cX6_countIf 73 = .ok (.iaload, 1) := by decide +kernel
theorem dX6_countIf_74 : decode cX6_countIf 74 = .ok (.iload 6, 2) := by decide +kernel
theorem dX6_countIf_76 : decode cX6_countIf 76 = .ok (.iload 5, 2) := by decide +kernel
theorem dX6_countIf_78 : decode cX6_countIf 78 = .ok (.ifCond .le 7, 3) := by decide +kernel
theorem dX6_countIf_81 : decode cX6_countIf 81 = .ok (.iconst 1, 1) := by decide +kernel
theorem dX6_countIf_82 : decode cX6_countIf 82 = .ok (.goto 4, 3) := by decide +kernel
theorem dX6_countIf_85 : decode cX6_countIf 85 = .ok (.iconst 0, 1) := by decide +kernel
theorem dX6_countIf_86 : decode cX6_countIf 86 = .ok (.invokevirtual 48, 3) := by decide +kernel
theorem dX6_countIf_89 : decode cX6_countIf 89 = .ok (.ireturn, 1) := by decide +kernel
theorem ok_yX6_countIf : yOk yX6_countIf 3 := ⟨by decide +kernel, by decide +kernel, by decide +kernel⟩
def fX6_countIf_42 (n : Nat) (st : St) (v1 : Int32) (v3 : Int32) (v5 : Int32) (w0 : Int32) : Option (Int32 × St) := gd (inB v1 13) (gd (inB v3 13) (gd (inB v3 13) (if v5 ≤ 0 then ((fX4_weight n st (abI v5) (gI st 12 v1.toNatClampNeg) (gI st 15 v3.toNatClampNeg) (gI st 16 v3.toNatClampNeg) w0 (0 : Int32)).bind (fun r11 => some (r11.1, r11.2))) else ((fX4_weight n st (abI v5) (gI st 12 v1.toNatClampNeg) (gI st 15 v3.toNatClampNeg) (gI st 16 v3.toNatClampNeg) w0 (1 : Int32)).bind (fun r13 => some (r13.1, r13.2))))))
set_option maxHeartbeats 4000000 in
theorem tX6_countIf_42 {p : Program} {l : Launch} {e : Env} {s : State} {m : MethodId} {args : Array Value} {below : List Frame} {meth : Method} {c : Code} {X : WX} (C : Amb 65 X p s m args meth c cX6_countIf 7 RX6) (hr : meth.sig.returnType = some .int) {R : Int32 × St} {n : Nat} : ∀ (st : St) (v1 : Int32) (v3 : Int32) (v5 : Int32) (w0 : Int32) (H : Heap) (locs : List Loc) (ls : Array Slot), Wd EC 65 X s.heap st H locs → lv_has ls 7 [(0, .ref (xq X 24)), (1, .int v1), (3, .int v3), (4, .ref (xq X 2)), (5, .int v5)] → fX6_countIf_42 n st v1 v3 v5 w0 = some R → W p l e { frames := 2, cells := 0, slots := 0, locals := 52 } s m args below meth c H locs 0 0 (QI EC 65 X R.1 R.2 below args s) (F0 m 42 ls [.int w0]) := by
  obtain ⟨hx, hb, hml, hown, hts⟩ := id C.1
  intro st v1 v3 v5 w0 H locs ls  hw hl hf
  unfold fX6_countIf_42 at hf
  refine lv_istore (lv' := [(6, .int w0), (0, .ref (xq X 24)), (1, .int v1), (3, .int v3), (4, .ref (xq X 2)), (5, .int v5)]) hx hb dX6_countIf_42 hl (by decide) rfl (fun ls hl => ?_)
  refine lv_aload_n hx hb dX6_countIf_44 rfl (lv_at hl 1 rfl) ?_
  refine w_get (T := TX6) C hw (by decide) 5 kf_X6_24 (EC_24 X _ _) rfl inA6 (by decide) rfl dX6_countIf_45 ?_
  refine lv_iload hx hb dX6_countIf_48 (lv_at hl 5 rfl) ?_
  refine w_abs C hl.1 km_X6_43 (Nat.le_of_ble_eq_true rfl) (Nat.le_of_ble_eq_true rfl) (Nat.zero_le _) (Nat.zero_le _) dX6_countIf_50 ?_
  refine lv_aload hx hb dX6_countIf_53 (lv_at hl 4 rfl) ?_
  refine lv_bipush (v := 9) hx hb dX6_countIf_55 (by decide) ?_
  refine w_aald (k' := 12) C hw (by decide) (EC_2 X _ _) rfl rfl (by decide) rfl dX6_countIf_57 ?_
  refine lv_iload_n hx hb dX6_countIf_58 rfl (lv_at hl 2 rfl) ?_
  obtain ⟨h7, hf⟩ := gd_some hf
  refine w_iald C hw (by decide) (EC_12 X _ _) h7 rfl dX6_countIf_59 ?_
  refine lv_aload hx hb dX6_countIf_60 (lv_at hl 4 rfl) ?_
  refine lv_bipush (v := 12) hx hb dX6_countIf_62 (by decide) ?_
  refine w_aald (k' := 15) C hw (by decide) (EC_2 X _ _) rfl rfl (by decide) rfl dX6_countIf_64 ?_
  refine lv_iload_n hx hb dX6_countIf_65 rfl (lv_at hl 3 rfl) ?_
  obtain ⟨h8, hf⟩ := gd_some hf
  refine w_iald C hw (by decide) (EC_15 X _ _) h8 rfl dX6_countIf_66 ?_
  refine lv_aload hx hb dX6_countIf_67 (lv_at hl 4 rfl) ?_
  refine lv_bipush (v := 13) hx hb dX6_countIf_69 (by decide) ?_
  refine w_aald (k' := 16) C hw (by decide) (EC_2 X _ _) rfl rfl (by decide) rfl dX6_countIf_71 ?_
  refine lv_iload_n hx hb dX6_countIf_72 rfl (lv_at hl 3 rfl) ?_
  obtain ⟨h9, hf⟩ := gd_some hf
  refine w_iald C hw (by decide) (EC_16 X _ _) h9 rfl dX6_countIf_73 ?_
  refine lv_iload hx hb dX6_countIf_74 (lv_at hl 0 rfl) ?_
  refine lv_iload hx hb dX6_countIf_76 (lv_at hl 5 rfl) ?_
  refine lv_if_le (tgt := 85) hx hb dX6_countIf_78 (by decide) (fun c10 => ?_) (fun c10 => ?_)
  · replace hf := ite_t hf c10
    refine lv_iconst (v := 0) hx hb dX6_countIf_85 (by decide) ?_
    obtain ⟨r11, k12, hf⟩ := bd_some hf
    refine w_goI hw (w_runV (rest := []) C hw (zX4_weight _ _ n st (abI v5) (gI st 12 v1.toNatClampNeg) (gI st 15 v3.toNatClampNeg) (gI st 16 v3.toNatClampNeg) w0 (0 : Int32) r11 k12) (by decide) (EC_17 X _ _) rfl km_X6_48 ki_yX4_weight kv_X4_weight kz_X4 kc_X4_weight rfl ok_yX4_weight ⟨Nat.le_of_ble_eq_true rfl, Nat.le_of_ble_eq_true rfl⟩ rfl rfl rfl rfl hl.1 (Nat.le_of_ble_eq_true rfl) dX6_countIf_86 ⟨Nat.zero_le _, Nat.zero_le _⟩) (fun H locs hw => ?_)
    exact w_iret C hw hr (so2 hf).1 (so2 hf).2 dX6_countIf_89
  · replace hf := ite_f hf c10
    refine lv_iconst (v := 1) hx hb dX6_countIf_81 (by decide) ?_
    refine lv_goto (tgt := 86) hx hb dX6_countIf_82 (by decide) ?_
    obtain ⟨r13, k14, hf⟩ := bd_some hf
    refine w_goI hw (w_runV (rest := []) C hw (zX4_weight _ _ n st (abI v5) (gI st 12 v1.toNatClampNeg) (gI st 15 v3.toNatClampNeg) (gI st 16 v3.toNatClampNeg) w0 (1 : Int32) r13 k14) (by decide) (EC_17 X _ _) rfl km_X6_48 ki_yX4_weight kv_X4_weight kz_X4 kc_X4_weight rfl ok_yX4_weight ⟨Nat.le_of_ble_eq_true rfl, Nat.le_of_ble_eq_true rfl⟩ rfl rfl rfl rfl hl.1 (Nat.le_of_ble_eq_true rfl) dX6_countIf_86 ⟨Nat.zero_le _, Nat.zero_le _⟩) (fun H locs hw => ?_)
    exact w_iret C hw hr (so2 hf).1 (so2 hf).2 dX6_countIf_89
def fX6_countIf (n : Nat) (st : St) (a1 : Int32) (a2 : Int32) (a3 : Int32) : Option (Int32 × St) := gd (inB a1 13) (gd (inB a3 13) (bnd ((gI st 11 a1.toNatClampNeg) - (gI st 14 a3.toNatClampNeg)) (fun x3 => gd (inB a3 13) (if gI st 13 a3.toNatClampNeg = a2 then (fX6_countIf_42 n st a1 a3 x3 (1 : Int32)) else (fX6_countIf_42 n st a1 a3 x3 (0 : Int32))))))
set_option maxHeartbeats 4000000 in
theorem zX6_countIf (l : Launch) (X : WX) (n : Nat) (st : St) (a1 : Int32) (a2 : Int32) (a3 : Int32) (R : Int32 × St) (hf : fX6_countIf n st a1 a2 a3 = some R) : CtI l yX6_countIf cX6_countIf 7 .int ({ frames := 2, cells := 0, slots := 0, locals := 52 }) EC 65 X [.ref (xq X 24), .int a1, .int a2, .int a3] st R.1 R.2 := by
  refine ct_in (own := RX6) (by decide +kernel) rfl (Nat.le_of_ble_eq_true rfl) (fun p e s m below meth c C hr hw ls hl => ?_)
  obtain ⟨hx, hb, hml, hown, hts⟩ := id C.1
  have hl : lv_has ls 7 [(0, .ref (xq X 24)), (1, .int a1), (2, .int a2), (3, .int a3)] := hl
  unfold fX6_countIf at hf
  refine lv_aload_n hx hb dX6_countIf_0 rfl (lv_at hl 0 rfl) ?_
  refine w_get (T := TX6) C hw (by decide) 4 kf_X6_20 (EC_24 X _ _) rfl inA6 (by decide) rfl dX6_countIf_1 ?_
  refine w_get (T := TX3) C hw (by decide) 0 kf_X6_39 (EC_1 X _ _) rfl inA3 (by decide) rfl dX6_countIf_4 ?_
  refine lv_astore (lv' := [(4, .ref (xq X 2)), (0, .ref (xq X 24)), (1, .int a1), (2, .int a2), (3, .int a3)]) hx hb dX6_countIf_7 hl (by decide) rfl (fun ls hl => ?_)
  refine lv_aload hx hb dX6_countIf_9 (lv_at hl 0 rfl) ?_
  refine lv_bipush (v := 8) hx hb dX6_countIf_11 (by decide) ?_
  refine w_aald (k' := 11) C hw (by decide) (EC_2 X _ _) rfl rfl (by decide) rfl dX6_countIf_13 ?_
  refine lv_iload_n hx hb dX6_countIf_14 rfl (lv_at hl 2 rfl) ?_
  obtain ⟨h1, hf⟩ := gd_some hf
  refine w_iald C hw (by decide) (EC_11 X _ _) h1 rfl dX6_countIf_15 ?_
  refine lv_aload hx hb dX6_countIf_16 (lv_at hl 0 rfl) ?_
  refine lv_bipush (v := 11) hx hb dX6_countIf_18 (by decide) ?_
  refine w_aald (k' := 14) C hw (by decide) (EC_2 X _ _) rfl rfl (by decide) rfl dX6_countIf_20 ?_
  refine lv_iload_n hx hb dX6_countIf_21 rfl (lv_at hl 4 rfl) ?_
  obtain ⟨h2, hf⟩ := gd_some hf
  refine w_iald C hw (by decide) (EC_14 X _ _) h2 rfl dX6_countIf_22 ?_
  refine lv_isub hx hb dX6_countIf_23 ?_
  refine lv_topi (fun x3 e4 => ?_)
  replace hf := bnd_nm hf e4
  refine lv_istore (lv' := [(5, .int x3), (4, .ref (xq X 2)), (0, .ref (xq X 24)), (1, .int a1), (2, .int a2), (3, .int a3)]) hx hb dX6_countIf_24 hl (by decide) rfl (fun ls hl => ?_)
  refine lv_aload hx hb dX6_countIf_26 (lv_at hl 1 rfl) ?_
  refine lv_bipush (v := 10) hx hb dX6_countIf_28 (by decide) ?_
  refine w_aald (k' := 13) C hw (by decide) (EC_2 X _ _) rfl rfl (by decide) rfl dX6_countIf_30 ?_
  refine lv_iload_n hx hb dX6_countIf_31 rfl (lv_at hl 5 rfl) ?_
  obtain ⟨h5, hf⟩ := gd_some hf
  refine w_iald C hw (by decide) (EC_13 X _ _) h5 rfl dX6_countIf_32 ?_
  refine lv_iload_n hx hb dX6_countIf_33 rfl (lv_at hl 4 rfl) ?_
  refine lv_icmp_ne (tgt := 41) hx hb dX6_countIf_34 (by decide) (fun c6 => ?_) (fun c6 => ?_)
  · replace hf := ite_f hf c6
    refine lv_iconst (v := 0) hx hb dX6_countIf_41 (by decide) ?_
    exact tX6_countIf_42 C hr st a1 a3 x3 (0 : Int32) _ _ _ hw (lv_sub hl [2, 3, 5, 1, 0] rfl) hf
  · replace hf := ite_t hf c6
    refine lv_iconst (v := 1) hx hb dX6_countIf_37 (by decide) ?_
    refine lv_goto (tgt := 42) hx hb dX6_countIf_38 (by decide) ?_
    exact tX6_countIf_42 C hr st a1 a3 x3 (1 : Int32) _ _ _ hw (lv_sub hl [2, 3, 5, 1, 0] rfl) hf
theorem dX6_countOf_0 : decode cX6_countOf 0 = .ok (.aload_n 0, 1) := by decide +kernel
theorem dX6_countOf_1 : decode cX6_countOf 1 = .ok (.iload_n 1, 1) := by decide +kernel
theorem dX6_countOf_2 : decode cX6_countOf 2 = .ok (.aload_n 0, 1) := by decide +kernel
theorem dX6_countOf_3 : decode cX6_countOf 3 = .ok (.getfield 20, 3) := by decide +kernel
theorem dX6_countOf_6 : decode cX6_countOf 6 = .ok (.aload_n 0, 1) := by decide +kernel
theorem dX6_countOf_7 : decode cX6_countOf 7 = .ok (.getfield 20, 3) := by decide +kernel
theorem dX6_countOf_10 : decode cX6_countOf 10 = .ok (.iload_n 1, 1) := by decide +kernel
theorem dX6_countOf_11 : decode cX6_countOf 11 = .ok (.invokevirtual 28, 3) := by decide +kernel
theorem dX6_countOf_14 : decode cX6_countOf 14 = .ok (.invokevirtual 32, 3) := by decide +kernel
theorem dX6_countOf_17 : decode cX6_countOf 17 = .ok (.iload_n 2, 1) := by decide +kernel
theorem dX6_countOf_18 : decode cX6_countOf 18 = .ok (.invokevirtual 35, 3) := by decide +kernel
theorem dX6_countOf_21 : decode cX6_countOf 21 = .ok (.ireturn, 1) := by decide +kernel
theorem ok_yX6_countOf : yOk yX6_countOf 2 := ⟨by decide +kernel, by decide +kernel, by decide +kernel⟩
def fX6_countOf (n : Nat) (st : St) (a1 : Int32) (a2 : Int32) : Option (Int32 × St) := (fX3_fieldUnder n st a1).bind (fun r1 => (fX3_ownerOf st r1).bind (fun r3 => (fX6_countIf n st a1 r3 a2).bind (fun r5 => some (r5.1, r5.2))))
set_option maxHeartbeats 4000000 in
theorem zX6_countOf (l : Launch) (X : WX) (n : Nat) (st : St) (a1 : Int32) (a2 : Int32) (R : Int32 × St) (hf : fX6_countOf n st a1 a2 = some R) : CtI l yX6_countOf cX6_countOf 3 .int ({ frames := 3, cells := 0, slots := 0, locals := 78 }) EC 65 X [.ref (xq X 24), .int a1, .int a2] st R.1 R.2 := by
  refine ct_in (own := RX6) (by decide +kernel) rfl (Nat.le_of_ble_eq_true rfl) (fun p e s m below meth c C hr hw ls hl => ?_)
  obtain ⟨hx, hb, hml, hown, hts⟩ := id C.1
  have hl : lv_has ls 3 [(0, .ref (xq X 24)), (1, .int a1), (2, .int a2)] := hl
  unfold fX6_countOf at hf
  refine lv_aload_n hx hb dX6_countOf_0 rfl (lv_at hl 0 rfl) ?_
  refine lv_iload_n hx hb dX6_countOf_1 rfl (lv_at hl 1 rfl) ?_
  refine lv_aload_n hx hb dX6_countOf_2 rfl (lv_at hl 0 rfl) ?_
  refine w_get (T := TX6) C hw (by decide) 4 kf_X6_20 (EC_24 X _ _) rfl inA6 (by decide) rfl dX6_countOf_3 ?_
  refine lv_aload_n hx hb dX6_countOf_6 rfl (lv_at hl 0 rfl) ?_
  refine w_get (T := TX6) C hw (by decide) 4 kf_X6_20 (EC_24 X _ _) rfl inA6 (by decide) rfl dX6_countOf_7 ?_
  refine lv_iload_n hx hb dX6_countOf_10 rfl (lv_at hl 1 rfl) ?_
  obtain ⟨r1, k2, hf⟩ := bd_some hf
  refine w_goI hw (w_runV (rest := [.ref (xq X 1), .int a1, .ref (xq X 24)]) C hw (zX3_fieldUnder _ _ n st a1 r1 k2) (by decide) (EC_1 X _ _) rfl km_X6_28 ki_yX3_fieldUnder kv_X3_fieldUnder kz_X3 kc_X3_fieldUnder rfl ok_yX3_fieldUnder ⟨Nat.le_of_ble_eq_true rfl, Nat.le_of_ble_eq_true rfl⟩ rfl rfl rfl rfl hl.1 (Nat.le_of_ble_eq_true rfl) dX6_countOf_11 ⟨Nat.zero_le _, Nat.zero_le _⟩) (fun H locs hw => ?_)
  obtain ⟨r3, k4, hf⟩ := bd_some hf
  refine w_goI hw (w_runV (rest := [.int a1, .ref (xq X 24)]) C hw (zX3_ownerOf _ _ st r1 r3 k4) (by decide) (EC_1 X _ _) rfl km_X6_32 ki_yX3_ownerOf kv_X3_ownerOf kz_X3 kc_X3_ownerOf rfl ok_yX3_ownerOf ⟨Nat.le_of_ble_eq_true rfl, Nat.le_of_ble_eq_true rfl⟩ rfl rfl rfl rfl hl.1 (Nat.le_of_ble_eq_true rfl) dX6_countOf_14 ⟨Nat.zero_le _, Nat.zero_le _⟩) (fun H locs hw => ?_)
  refine lv_iload_n hx hb dX6_countOf_17 rfl (lv_at hl 2 rfl) ?_
  obtain ⟨r5, k6, hf⟩ := bd_some hf
  refine w_goI hw (w_runV (rest := []) C hw (zX6_countIf _ _ n st a1 r3 a2 r5 k6) (by decide) (EC_24 X _ _) rfl km_X6_35 ki_yX6_countIf kv_X6_countIf kz_X6 kc_X6_countIf rfl ok_yX6_countIf ⟨Nat.le_of_ble_eq_true rfl, Nat.le_of_ble_eq_true rfl⟩ rfl rfl rfl rfl hl.1 (Nat.le_of_ble_eq_true rfl) dX6_countOf_18 ⟨Nat.zero_le _, Nat.zero_le _⟩) (fun H locs hw => ?_)
  exact w_iret C hw hr (so2 hf).1 (so2 hf).2 dX6_countOf_21
theorem dX6_weigh_0 : decode cX6_weigh 0 = .ok (.aload_n 0, 1) := by decide +kernel
theorem dX6_weigh_1 : decode cX6_weigh 1 = .ok (.iconst 0, 1) := by decide +kernel
theorem dX6_weigh_2 : decode cX6_weigh 2 = .ok (.putfield 54, 3) := by decide +kernel
theorem dX6_weigh_5 : decode cX6_weigh 5 = .ok (.aload_n 0, 1) := by decide +kernel
theorem dX6_weigh_6 : decode cX6_weigh 6 = .ok (.iconst 0, 1) := by decide +kernel
theorem dX6_weigh_7 : decode cX6_weigh 7 = .ok (.putfield 58, 3) := by decide +kernel
theorem dX6_weigh_10 : decode cX6_weigh 10 = .ok (.aload_n 0, 1) := by decide +kernel
theorem dX6_weigh_11 : decode cX6_weigh 11 = .ok (.iconst 0, 1) := by decide +kernel
theorem dX6_weigh_12 : decode cX6_weigh 12 = .ok (.putfield 61, 3) := by decide +kernel
theorem dX6_weigh_15 : decode cX6_weigh 15 = .ok (.iconst 0, 1) := by decide +kernel
theorem dX6_weigh_16 : decode cX6_weigh 16 = .ok (.istore 4, 2) := by decide +kernel
theorem dX6_weigh_18 : decode cX6_weigh 18 = .ok (.iload 4, 2) := by decide +kernel
theorem dX6_weigh_20 : decode cX6_weigh 20 = .ok (.aload_n 0, 1) := by decide +kernel
theorem dX6_weigh_21 : decode cX6_weigh 21 = .ok (.getfield 20, 3) := by decide +kernel
theorem dX6_weigh_24 : decode cX6_weigh 24 = .ok (.getfield 64, 3) := by decide +kernel
theorem dX6_weigh_27 : decode cX6_weigh 27 = .ok (.if_icmp .ge 91, 3) := by decide +kernel
theorem dX6_weigh_30 : decode cX6_weigh 30 = .ok (.iload 4, 2) := by decide +kernel
theorem dX6_weigh_32 : decode cX6_weigh 32 = .ok (.iload_n 3, 1) := by decide +kernel
theorem dX6_weigh_33 : decode cX6_weigh 33 = .ok (.if_icmp .ne 7, 3) := by decide +kernel
theorem dX6_weigh_36 : decode cX6_weigh 36 = .ok (.iconst 0, 1) := by decide +kernel
theorem dX6_weigh_37 : decode cX6_weigh 37 = .ok (.goto 11, 3) := by decide +kernel
theorem dX6_weigh_40 : decode cX6_weigh 40 = .ok (.aload_n 0, 1) := by decide +kernel
theorem dX6_weigh_41 : decode cX6_weigh 41 = .ok (.iload_n 1, 1) := by decide +kernel
theorem dX6_weigh_42 : decode cX6_weigh 42 = .ok (.iload_n 2, 1) := by decide +kernel
theorem dX6_weigh_43 : decode cX6_weigh 43 = .ok (.iload 4, 2) := by decide +kernel
theorem dX6_weigh_45 : decode cX6_weigh 45 = .ok (.invokevirtual 35, 3) := by decide +kernel
theorem dX6_weigh_48 : decode cX6_weigh 48 = .ok (.istore 5, 2) := by decide +kernel
theorem dX6_weigh_50 : decode cX6_weigh 50 = .ok (.iload 5, 2) := by decide +kernel
theorem dX6_weigh_52 : decode cX6_weigh 52 = .ok (.aload_n 0, 1) := by decide +kernel
theorem dX6_weigh_53 : decode cX6_weigh 53 = .ok (.getfield 54, 3) := by decide +kernel
theorem dX6_weigh_56 : decode cX6_weigh 56 = .ok (.if_icmp .le 19, 3) := by decide +kernel
theorem dX6_weigh_59 : decode cX6_weigh 59 = .ok (.aload_n 0, 1) := by decide +kernel
theorem dX6_weigh_60 : decode cX6_weigh 60 = .ok (.iload 5, 2) := by decide +kernel
theorem dX6_weigh_62 : decode cX6_weigh 62 = .ok (.putfield 54, 3) := by decide +kernel
theorem dX6_weigh_65 : decode cX6_weigh 65 = .ok (.aload_n 0, 1) := by decide +kernel
theorem dX6_weigh_66 : decode cX6_weigh 66 = .ok (.iconst 0, 1) := by decide +kernel
theorem dX6_weigh_67 : decode cX6_weigh 67 = .ok (.putfield 58, 3) := by decide +kernel
theorem dX6_weigh_70 : decode cX6_weigh 70 = .ok (.aload_n 0, 1) := by decide +kernel
theorem dX6_weigh_71 : decode cX6_weigh 71 = .ok (.iconst 0, 1) := by decide +kernel
theorem dX6_weigh_72 : decode cX6_weigh 72 = .ok (.putfield 61, 3) := by decide +kernel
theorem dX6_weigh_75 : decode cX6_weigh 75 = .ok (.iload 5, 2) := by decide +kernel
theorem dX6_weigh_77 : decode cX6_weigh 77 = .ok (.ifCond .le 35, 3) := by decide +kernel
theorem dX6_weigh_80 : decode cX6_weigh 80 = .ok (.iload 5, 2) := by decide +kernel
theorem dX6_weigh_82 : decode cX6_weigh 82 = .ok (.aload_n 0, 1) := by decide +kernel
theorem dX6_weigh_83 : decode cX6_weigh 83 = .ok (.getfield 54, 3) := by decide +kernel
theorem dX6_weigh_86 : decode cX6_weigh 86 = .ok (.if_icmp .ne 26, 3) := by decide +kernel
theorem dX6_weigh_89 : decode cX6_weigh 89 = .ok (.aload_n 0, 1) := by decide +kernel
theorem dX6_weigh_90 : decode cX6_weigh 90 = .ok (.dup, 1) := by decide +kernel
theorem dX6_weigh_91 : decode cX6_weigh 91 = .ok (.getfield 58, 3) := by decide +kernel
theorem dX6_weigh_94 : decode cX6_weigh 94 = .ok (.iconst 1, 1) := by decide +kernel
theorem dX6_weigh_95 : decode cX6_weigh 95 = .ok (.iload 4, 2) := by decide +kernel
theorem dX6_weigh_97 : decode cX6_weigh 97 = .ok (.ishl, 1) := by decide +kernel
theorem dX6_weigh_98 : decode cX6_weigh 98 = .ok (.ior, 1) := by decide +kernel
theorem dX6_weigh_99 : decode cX6_weigh 99 = .ok (.putfield 58, 3) := by decide +kernel
theorem dX6_weigh_102 : decode cX6_weigh 102 = .ok (.aload_n 0, 1) := by decide +kernel
theorem dX6_weigh_103 : decode cX6_weigh 103 = .ok (.dup, 1) := by decide +kernel
theorem dX6_weigh_104 : decode cX6_weigh 104 = .ok (.getfield 61, 3) := by decide +kernel
theorem dX6_weigh_107 : decode cX6_weigh 107 = .ok (.iconst 1, 1) := by decide +kernel
theorem dX6_weigh_108 : decode cX6_weigh 108 = .ok (.iadd, 1) := by decide +kernel
theorem dX6_weigh_109 : decode cX6_weigh 109 = .ok (.putfield 61, 3) := by decide +kernel
theorem dX6_weigh_112 : decode cX6_weigh 112 = .ok (.iinc 4 1, 3) := by decide +kernel
theorem dX6_weigh_115 : decode cX6_weigh 115 = .ok (.goto (-97), 3) := by decide +kernel
theorem dX6_weigh_118 : decode cX6_weigh 118 = .ok (.return_, 1) := by decide +kernel
theorem ok_yX6_weigh : yOk yX6_weigh 3 := ⟨by decide +kernel, by decide +kernel, by decide +kernel⟩
def fX6_weigh_75 (kB18 : St → Int32 → Int32 → Int32 → Int32 → Option (St)) (n : Nat) (st : St) (v1 : Int32) (v2 : Int32) (v3 : Int32) (v4 : Int32) (v5 : Int32) : Option (St) := if v5 ≤ 0 then (bnd (v4 + (1 : Int32)) (fun x19 => kB18 st v1 v2 v3 x19)) else (if v5 = gI st 24 1 then (bnd (sI st 24 2 ((gI st 24 2) ||| ((1 : Int32) <<< (v4 &&& 31)))) (fun st24 => bnd (sI st24 24 3 ((gI st24 24 3) + (1 : Int32))) (fun st26 => bnd (v4 + (1 : Int32)) (fun x28 => kB18 st26 v1 v2 v3 x28)))) else (bnd (v4 + (1 : Int32)) (fun x22 => kB18 st v1 v2 v3 x22)))
set_option maxHeartbeats 4000000 in
theorem tX6_weigh_75 {p : Program} {l : Launch} {e : Env} {s : State} {m : MethodId} {args : Array Value} {below : List Frame} {meth : Method} {c : Code} {X : WX} (C : Amb 65 X p s m args meth c cX6_weigh 6 RX6) (hr : meth.sig.returnType = none) {R : St} {n : Nat} {kB18 : St → Int32 → Int32 → Int32 → Int32 → Option (St)} (hB18 : ∀ (st : St) (v1 : Int32) (v2 : Int32) (v3 : Int32) (v4 : Int32) (H : Heap) (locs : List Loc) (ls : Array Slot), Wd EC 65 X s.heap st H locs → lv_has ls 6 [(0, .ref (xq X 24)), (1, .int v1), (2, .int v2), (3, .int v3), (4, .int v4)] → kB18 st v1 v2 v3 v4 = some R → W p l e { frames := 3, cells := 0, slots := 0, locals := 78 } s m args below meth c H locs 0 0 (QV EC 65 X R below args s) (F0 m 18 ls [])) : ∀ (st : St) (v1 : Int32) (v2 : Int32) (v3 : Int32) (v4 : Int32) (v5 : Int32) (H : Heap) (locs : List Loc) (ls : Array Slot), Wd EC 65 X s.heap st H locs → lv_has ls 6 [(0, .ref (xq X 24)), (1, .int v1), (2, .int v2), (3, .int v3), (4, .int v4), (5, .int v5)] → fX6_weigh_75 kB18 n st v1 v2 v3 v4 v5 = some R → W p l e { frames := 3, cells := 0, slots := 0, locals := 78 } s m args below meth c H locs 0 0 (QV EC 65 X R below args s) (F0 m 75 ls []) := by
  obtain ⟨hx, hb, hml, hown, hts⟩ := id C.1
  intro st v1 v2 v3 v4 v5 H locs ls  hw hl hf
  unfold fX6_weigh_75 at hf
  refine lv_iload hx hb dX6_weigh_75 (lv_at hl 5 rfl) ?_
  refine lv_if_le (tgt := 112) hx hb dX6_weigh_77 (by decide) (fun c18 => ?_) (fun c18 => ?_)
  · replace hf := ite_t hf c18
    obtain ⟨x19, e20⟩ : ∃ z : Int32, z = v4 + (1 : Int32) := ⟨_, rfl⟩
    replace hf := bnd_nm hf e20
    refine lv_iinc (v := x19) (lv' := [(4, .int x19), (0, .ref (xq X 24)), (1, .int v1), (2, .int v2), (3, .int v3), (5, .int v5)]) hx hb dX6_weigh_112 hl (k := 4) rfl (by rw [e20]; rfl) (by decide) rfl (fun ls hl => ?_)
    refine lv_goto (tgt := 18) hx hb dX6_weigh_115 (by decide) ?_
    exact hB18 st v1 v2 v3 x19 _ _ _ hw (lv_sub hl [1, 2, 3, 4, 0] rfl) hf
  · replace hf := ite_f hf c18
    refine lv_iload hx hb dX6_weigh_80 (lv_at hl 5 rfl) ?_
    refine lv_aload_n hx hb dX6_weigh_82 rfl (lv_at hl 0 rfl) ?_
    refine w_get (T := TX6) C hw (by decide) 1 kf_X6_54 (EC_24 X _ _) rfl inA6 (by decide) rfl dX6_weigh_83 ?_
    refine lv_icmp_ne (tgt := 112) hx hb dX6_weigh_86 (by decide) (fun c21 => ?_) (fun c21 => ?_)
    · replace hf := ite_f hf c21
      obtain ⟨x22, e23⟩ : ∃ z : Int32, z = v4 + (1 : Int32) := ⟨_, rfl⟩
      replace hf := bnd_nm hf e23
      refine lv_iinc (v := x22) (lv' := [(4, .int x22), (0, .ref (xq X 24)), (1, .int v1), (2, .int v2), (3, .int v3), (5, .int v5)]) hx hb dX6_weigh_112 hl (k := 4) rfl (by rw [e23]; rfl) (by decide) rfl (fun ls hl => ?_)
      refine lv_goto (tgt := 18) hx hb dX6_weigh_115 (by decide) ?_
      exact hB18 st v1 v2 v3 x22 _ _ _ hw (lv_sub hl [1, 2, 3, 4, 0] rfl) hf
    · replace hf := ite_t hf c21
      refine lv_aload_n hx hb dX6_weigh_89 rfl (lv_at hl 0 rfl) ?_
      refine lv_dup hx hb dX6_weigh_90 rfl ?_
      refine w_get (T := TX6) C hw (by decide) 2 kf_X6_58 (EC_24 X _ _) rfl inA6 (by decide) rfl dX6_weigh_91 ?_
      refine lv_iconst (v := 1) hx hb dX6_weigh_94 (by decide) ?_
      refine lv_iload hx hb dX6_weigh_95 (lv_at hl 4 rfl) ?_
      refine lv_ishl hx hb dX6_weigh_97 ?_
      refine lv_ior hx hb dX6_weigh_98 ?_
      obtain ⟨st24, es25⟩ : ∃ z : St, z = sI st 24 2 ((gI st 24 2) ||| ((1 : Int32) <<< (v4 &&& 31))) := ⟨_, rfl⟩
      replace hf := bnd_nm hf es25
      refine w_puti (T := TX6) C hw (by decide) 2 kf_X6_58 (EC_24 X _ _) rfl inA6 tyX6_ok nmX6 (by decide) rfl rfl (Nat.le_of_ble_eq_true rfl) rfl dX6_weigh_99 (fun H locs hw => ?_)
      rw [← es25] at hw
      refine lv_aload_n hx hb dX6_weigh_102 rfl (lv_at hl 0 rfl) ?_
      refine lv_dup hx hb dX6_weigh_103 rfl ?_
      refine w_get (T := TX6) C hw (by decide) 3 kf_X6_61 (EC_24 X _ _) rfl inA6 (by decide) rfl dX6_weigh_104 ?_
      refine lv_iconst (v := 1) hx hb dX6_weigh_107 (by decide) ?_
      refine lv_iadd hx hb dX6_weigh_108 ?_
      obtain ⟨st26, es27⟩ : ∃ z : St, z = sI st24 24 3 ((gI st24 24 3) + (1 : Int32)) := ⟨_, rfl⟩
      replace hf := bnd_nm hf es27
      refine w_puti (T := TX6) C hw (by decide) 3 kf_X6_61 (EC_24 X _ _) rfl inA6 tyX6_ok nmX6 (by decide) rfl rfl (Nat.le_of_ble_eq_true rfl) rfl dX6_weigh_109 (fun H locs hw => ?_)
      rw [← es27] at hw
      obtain ⟨x28, e29⟩ : ∃ z : Int32, z = v4 + (1 : Int32) := ⟨_, rfl⟩
      replace hf := bnd_nm hf e29
      refine lv_iinc (v := x28) (lv' := [(4, .int x28), (0, .ref (xq X 24)), (1, .int v1), (2, .int v2), (3, .int v3), (5, .int v5)]) hx hb dX6_weigh_112 hl (k := 4) rfl (by rw [e29]; rfl) (by decide) rfl (fun ls hl => ?_)
      refine lv_goto (tgt := 18) hx hb dX6_weigh_115 (by decide) ?_
      exact hB18 st26 v1 v2 v3 x28 _ _ _ hw (lv_sub hl [1, 2, 3, 4, 0] rfl) hf
def fX6_weigh_48 (kB18 : St → Int32 → Int32 → Int32 → Int32 → Option (St)) (n : Nat) (st : St) (v1 : Int32) (v2 : Int32) (v3 : Int32) (v4 : Int32) (w0 : Int32) : Option (St) := if w0 ≤ gI st 24 1 then (fX6_weigh_75 kB18 n st v1 v2 v3 v4 w0) else (bnd (sI st 24 1 w0) (fun st12 => bnd (sI st12 24 2 (0 : Int32)) (fun st14 => bnd (sI st14 24 3 (0 : Int32)) (fun st16 => fX6_weigh_75 kB18 n st16 v1 v2 v3 v4 w0))))
set_option maxHeartbeats 4000000 in
theorem tX6_weigh_48 {p : Program} {l : Launch} {e : Env} {s : State} {m : MethodId} {args : Array Value} {below : List Frame} {meth : Method} {c : Code} {X : WX} (C : Amb 65 X p s m args meth c cX6_weigh 6 RX6) (hr : meth.sig.returnType = none) {R : St} {n : Nat} {kB18 : St → Int32 → Int32 → Int32 → Int32 → Option (St)} (hB18 : ∀ (st : St) (v1 : Int32) (v2 : Int32) (v3 : Int32) (v4 : Int32) (H : Heap) (locs : List Loc) (ls : Array Slot), Wd EC 65 X s.heap st H locs → lv_has ls 6 [(0, .ref (xq X 24)), (1, .int v1), (2, .int v2), (3, .int v3), (4, .int v4)] → kB18 st v1 v2 v3 v4 = some R → W p l e { frames := 3, cells := 0, slots := 0, locals := 78 } s m args below meth c H locs 0 0 (QV EC 65 X R below args s) (F0 m 18 ls [])) : ∀ (st : St) (v1 : Int32) (v2 : Int32) (v3 : Int32) (v4 : Int32) (w0 : Int32) (H : Heap) (locs : List Loc) (ls : Array Slot), Wd EC 65 X s.heap st H locs → lv_has ls 6 [(0, .ref (xq X 24)), (1, .int v1), (2, .int v2), (3, .int v3), (4, .int v4)] → fX6_weigh_48 kB18 n st v1 v2 v3 v4 w0 = some R → W p l e { frames := 3, cells := 0, slots := 0, locals := 78 } s m args below meth c H locs 0 0 (QV EC 65 X R below args s) (F0 m 48 ls [.int w0]) := by
  obtain ⟨hx, hb, hml, hown, hts⟩ := id C.1
  intro st v1 v2 v3 v4 w0 H locs ls  hw hl hf
  unfold fX6_weigh_48 at hf
  refine lv_istore (lv' := [(5, .int w0), (0, .ref (xq X 24)), (1, .int v1), (2, .int v2), (3, .int v3), (4, .int v4)]) hx hb dX6_weigh_48 hl (by decide) rfl (fun ls hl => ?_)
  refine lv_iload hx hb dX6_weigh_50 (lv_at hl 0 rfl) ?_
  refine lv_aload_n hx hb dX6_weigh_52 rfl (lv_at hl 1 rfl) ?_
  refine w_get (T := TX6) C hw (by decide) 1 kf_X6_54 (EC_24 X _ _) rfl inA6 (by decide) rfl dX6_weigh_53 ?_
  refine lv_icmp_le (tgt := 75) hx hb dX6_weigh_56 (by decide) (fun c11 => ?_) (fun c11 => ?_)
  · replace hf := ite_t hf c11
    exact tX6_weigh_75 C hr hB18 st v1 v2 v3 v4 w0 _ _ _ hw (lv_sub hl [1, 2, 3, 4, 5, 0] rfl) hf
  · replace hf := ite_f hf c11
    refine lv_aload_n hx hb dX6_weigh_59 rfl (lv_at hl 1 rfl) ?_
    refine lv_iload hx hb dX6_weigh_60 (lv_at hl 0 rfl) ?_
    obtain ⟨st12, es13⟩ : ∃ z : St, z = sI st 24 1 w0 := ⟨_, rfl⟩
    replace hf := bnd_nm hf es13
    refine w_puti (T := TX6) C hw (by decide) 1 kf_X6_54 (EC_24 X _ _) rfl inA6 tyX6_ok nmX6 (by decide) rfl rfl (Nat.le_of_ble_eq_true rfl) rfl dX6_weigh_62 (fun H locs hw => ?_)
    rw [← es13] at hw
    refine lv_aload_n hx hb dX6_weigh_65 rfl (lv_at hl 1 rfl) ?_
    refine lv_iconst (v := 0) hx hb dX6_weigh_66 (by decide) ?_
    obtain ⟨st14, es15⟩ : ∃ z : St, z = sI st12 24 2 (0 : Int32) := ⟨_, rfl⟩
    replace hf := bnd_nm hf es15
    refine w_puti (T := TX6) C hw (by decide) 2 kf_X6_58 (EC_24 X _ _) rfl inA6 tyX6_ok nmX6 (by decide) rfl rfl (Nat.le_of_ble_eq_true rfl) rfl dX6_weigh_67 (fun H locs hw => ?_)
    rw [← es15] at hw
    refine lv_aload_n hx hb dX6_weigh_70 rfl (lv_at hl 1 rfl) ?_
    refine lv_iconst (v := 0) hx hb dX6_weigh_71 (by decide) ?_
    obtain ⟨st16, es17⟩ : ∃ z : St, z = sI st14 24 3 (0 : Int32) := ⟨_, rfl⟩
    replace hf := bnd_nm hf es17
    refine w_puti (T := TX6) C hw (by decide) 3 kf_X6_61 (EC_24 X _ _) rfl inA6 tyX6_ok nmX6 (by decide) rfl rfl (Nat.le_of_ble_eq_true rfl) rfl dX6_weigh_72 (fun H locs hw => ?_)
    rw [← es17] at hw
    exact tX6_weigh_75 C hr hB18 st16 v1 v2 v3 v4 w0 _ _ _ hw (lv_sub hl [1, 2, 3, 4, 5, 0] rfl) hf
def fX6_weigh_18 (n : Nat) : Nat → St → Int32 → Int32 → Int32 → Int32 → Option (St)
  | 0, _, _, _, _, _ => none
  | k + 1, st, v1, v2, v3, v4 => if gI st 1 3 ≤ v4 then (some st) else (if v4 = v3 then (fX6_weigh_48 (fX6_weigh_18 n k) n st v1 v2 v3 v4 (0 : Int32)) else ((fX6_countIf n st v1 v2 v4).bind (fun r9 => fX6_weigh_48 (fX6_weigh_18 n k) n r9.2 v1 v2 v3 v4 r9.1)))
set_option maxHeartbeats 4000000 in
theorem tX6_weigh_18 {p : Program} {l : Launch} {e : Env} {s : State} {m : MethodId} {args : Array Value} {below : List Frame} {meth : Method} {c : Code} {X : WX} (C : Amb 65 X p s m args meth c cX6_weigh 6 RX6) (hr : meth.sig.returnType = none) {R : St} {n : Nat} : ∀ (k : Nat) (st : St) (v1 : Int32) (v2 : Int32) (v3 : Int32) (v4 : Int32) (H : Heap) (locs : List Loc) (ls : Array Slot), Wd EC 65 X s.heap st H locs → lv_has ls 6 [(0, .ref (xq X 24)), (1, .int v1), (2, .int v2), (3, .int v3), (4, .int v4)] → fX6_weigh_18 n k st v1 v2 v3 v4 = some R → W p l e { frames := 3, cells := 0, slots := 0, locals := 78 } s m args below meth c H locs 0 0 (QV EC 65 X R below args s) (F0 m 18 ls []) := by
  obtain ⟨hx, hb, hml, hown, hts⟩ := id C.1
  intro k
  induction k with
  | zero => intro st v1 v2 v3 v4 H locs ls  hw hl hf; exact absurd (show none = some R from hf) (fun z => by cases z)
  | succ k ih =>
    intro st v1 v2 v3 v4 H locs ls  hw hl hf
    rw [fX6_weigh_18] at hf
    refine lv_iload hx hb dX6_weigh_18 (lv_at hl 4 rfl) ?_
    refine lv_aload_n hx hb dX6_weigh_20 rfl (lv_at hl 0 rfl) ?_
    refine w_get (T := TX6) C hw (by decide) 4 kf_X6_20 (EC_24 X _ _) rfl inA6 (by decide) rfl dX6_weigh_21 ?_
    refine w_get (T := TX3) C hw (by decide) 3 kf_X6_64 (EC_1 X _ _) rfl inA3 (by decide) rfl dX6_weigh_24 ?_
    refine lv_icmp_ge (tgt := 118) hx hb dX6_weigh_27 (by decide) (fun c7 => ?_) (fun c7 => ?_)
    · replace hf := ite_t hf c7
      exact w_vret C hw hr (Option.some.inj hf) dX6_weigh_118
    · replace hf := ite_f hf c7
      refine lv_iload hx hb dX6_weigh_30 (lv_at hl 4 rfl) ?_
      refine lv_iload_n hx hb dX6_weigh_32 rfl (lv_at hl 3 rfl) ?_
      refine lv_icmp_ne (tgt := 40) hx hb dX6_weigh_33 (by decide) (fun c8 => ?_) (fun c8 => ?_)
      · replace hf := ite_f hf c8
        refine lv_aload_n hx hb dX6_weigh_40 rfl (lv_at hl 0 rfl) ?_
        refine lv_iload_n hx hb dX6_weigh_41 rfl (lv_at hl 1 rfl) ?_
        refine lv_iload_n hx hb dX6_weigh_42 rfl (lv_at hl 2 rfl) ?_
        refine lv_iload hx hb dX6_weigh_43 (lv_at hl 4 rfl) ?_
        obtain ⟨r9, k10, hf⟩ := bd_some hf
        refine w_goI hw (w_runV (rest := []) C hw (zX6_countIf _ _ n st v1 v2 v4 r9 k10) (by decide) (EC_24 X _ _) rfl km_X6_35 ki_yX6_countIf kv_X6_countIf kz_X6 kc_X6_countIf rfl ok_yX6_countIf ⟨Nat.le_of_ble_eq_true rfl, Nat.le_of_ble_eq_true rfl⟩ rfl rfl rfl rfl hl.1 (Nat.le_of_ble_eq_true rfl) dX6_weigh_45 ⟨Nat.zero_le _, Nat.zero_le _⟩) (fun H locs hw => ?_)
        exact tX6_weigh_48 C hr ih r9.2 v1 v2 v3 v4 r9.1 _ _ _ hw (lv_sub hl [0, 1, 2, 3, 4] rfl) hf
      · replace hf := ite_t hf c8
        refine lv_iconst (v := 0) hx hb dX6_weigh_36 (by decide) ?_
        refine lv_goto (tgt := 48) hx hb dX6_weigh_37 (by decide) ?_
        exact tX6_weigh_48 C hr ih st v1 v2 v3 v4 (0 : Int32) _ _ _ hw (lv_sub hl [0, 1, 2, 3, 4] rfl) hf
def fX6_weigh (n : Nat) (st : St) (a1 : Int32) (a2 : Int32) (a3 : Int32) : Option (St) := bnd (sI st 24 1 (0 : Int32)) (fun st1 => bnd (sI st1 24 2 (0 : Int32)) (fun st3 => bnd (sI st3 24 3 (0 : Int32)) (fun st5 => fX6_weigh_18 n n st5 a1 a2 a3 (0 : Int32))))
set_option maxHeartbeats 4000000 in
theorem zX6_weigh (l : Launch) (X : WX) (n : Nat) (st : St) (a1 : Int32) (a2 : Int32) (a3 : Int32) (R : St) (hf : fX6_weigh n st a1 a2 a3 = some R) : CtV l yX6_weigh cX6_weigh 6 ({ frames := 3, cells := 0, slots := 0, locals := 78 }) EC 65 X [.ref (xq X 24), .int a1, .int a2, .int a3] st R := by
  refine ct_in (own := RX6) (by decide +kernel) rfl (Nat.le_of_ble_eq_true rfl) (fun p e s m below meth c C hr hw ls hl => ?_)
  obtain ⟨hx, hb, hml, hown, hts⟩ := id C.1
  have hl : lv_has ls 6 [(0, .ref (xq X 24)), (1, .int a1), (2, .int a2), (3, .int a3)] := hl
  unfold fX6_weigh at hf
  refine lv_aload_n hx hb dX6_weigh_0 rfl (lv_at hl 0 rfl) ?_
  refine lv_iconst (v := 0) hx hb dX6_weigh_1 (by decide) ?_
  obtain ⟨st1, es2⟩ : ∃ z : St, z = sI st 24 1 (0 : Int32) := ⟨_, rfl⟩
  replace hf := bnd_nm hf es2
  refine w_puti (T := TX6) C hw (by decide) 1 kf_X6_54 (EC_24 X _ _) rfl inA6 tyX6_ok nmX6 (by decide) rfl rfl (Nat.le_of_ble_eq_true rfl) rfl dX6_weigh_2 (fun H locs hw => ?_)
  rw [← es2] at hw
  refine lv_aload_n hx hb dX6_weigh_5 rfl (lv_at hl 0 rfl) ?_
  refine lv_iconst (v := 0) hx hb dX6_weigh_6 (by decide) ?_
  obtain ⟨st3, es4⟩ : ∃ z : St, z = sI st1 24 2 (0 : Int32) := ⟨_, rfl⟩
  replace hf := bnd_nm hf es4
  refine w_puti (T := TX6) C hw (by decide) 2 kf_X6_58 (EC_24 X _ _) rfl inA6 tyX6_ok nmX6 (by decide) rfl rfl (Nat.le_of_ble_eq_true rfl) rfl dX6_weigh_7 (fun H locs hw => ?_)
  rw [← es4] at hw
  refine lv_aload_n hx hb dX6_weigh_10 rfl (lv_at hl 0 rfl) ?_
  refine lv_iconst (v := 0) hx hb dX6_weigh_11 (by decide) ?_
  obtain ⟨st5, es6⟩ : ∃ z : St, z = sI st3 24 3 (0 : Int32) := ⟨_, rfl⟩
  replace hf := bnd_nm hf es6
  refine w_puti (T := TX6) C hw (by decide) 3 kf_X6_61 (EC_24 X _ _) rfl inA6 tyX6_ok nmX6 (by decide) rfl rfl (Nat.le_of_ble_eq_true rfl) rfl dX6_weigh_12 (fun H locs hw => ?_)
  rw [← es6] at hw
  refine lv_iconst (v := 0) hx hb dX6_weigh_15 (by decide) ?_
  refine lv_istore (lv' := [(4, .int (0 : Int32)), (0, .ref (xq X 24)), (1, .int a1), (2, .int a2), (3, .int a3)]) hx hb dX6_weigh_16 hl (by decide) rfl (fun ls hl => ?_)
  exact tX6_weigh_18 C hr n st5 a1 a2 a3 (0 : Int32) _ _ _ hw (lv_sub hl [1, 2, 3, 4, 0] rfl) hf
theorem dX6_settle_0 : decode cX6_settle 0 = .ok (.aload_n 0, 1) := by decide +kernel
theorem dX6_settle_1 : decode cX6_settle 1 = .ok (.getfield 20, 3) := by decide +kernel
theorem dX6_settle_4 : decode cX6_settle 4 = .ok (.aload_n 0, 1) := by decide +kernel
theorem dX6_settle_5 : decode cX6_settle 5 = .ok (.getfield 20, 3) := by decide +kernel
theorem dX6_settle_8 : decode cX6_settle 8 = .ok (.iload_n 1, 1) := by decide +kernel
theorem dX6_settle_9 : decode cX6_settle 9 = .ok (.invokevirtual 28, 3) := by decide +kernel
theorem dX6_settle_12 : decode cX6_settle 12 = .ok (.invokevirtual 32, 3) := by decide +kernel
theorem dX6_settle_15 : decode cX6_settle 15 = .ok (.istore_n 3, 1) := by decide +kernel
theorem dX6_settle_16 : decode cX6_settle 16 = .ok (.aload_n 0, 1) := by decide +kernel
theorem dX6_settle_17 : decode cX6_settle 17 = .ok (.iload_n 1, 1) := by decide +kernel
theorem dX6_settle_18 : decode cX6_settle 18 = .ok (.iload_n 3, 1) := by decide +kernel
theorem dX6_settle_19 : decode cX6_settle 19 = .ok (.iconst (-1), 1) := by decide +kernel
theorem dX6_settle_20 : decode cX6_settle 20 = .ok (.invokevirtual 67, 3) := by decide +kernel
theorem dX6_settle_23 : decode cX6_settle 23 = .ok (.iload_n 3, 1) := by decide +kernel
theorem dX6_settle_24 : decode cX6_settle 24 = .ok (.ifCond .lt 10, 3) := by decide +kernel
theorem dX6_settle_27 : decode cX6_settle 27 = .ok (.aload_n 0, 1) := by decide +kernel
theorem dX6_settle_28 : decode cX6_settle 28 = .ok (.getfield 61, 3) := by decide +kernel
theorem dX6_settle_31 : decode cX6_settle 31 = .ok (.ifCond .ne 5, 3) := by decide +kernel
theorem dX6_settle_34 : decode cX6_settle 34 = .ok (.iconst 0, 1) := by decide +kernel
theorem dX6_settle_35 : decode cX6_settle 35 = .ok (.ireturn, 1) := by decide +kernel
theorem dX6_settle_36 : decode cX6_settle 36 = .ok (.bipush 12, 2) := by decide +kernel
theorem dX6_settle_38 : decode cX6_settle 38 = .ok (.aload_n 0, 1) := by decide +kernel
theorem dX6_settle_39 : decode cX6_settle 39 = .ok (.getfield 61, 3) := by decide +kernel
theorem dX6_settle_42 : decode cX6_settle 42 = .ok (.idiv, 1) := by decide +kernel
theorem dX6_settle_43 : decode cX6_settle 43 = .ok (.istore 4, 2) := by decide +kernel
theorem dX6_settle_45 : decode cX6_settle 45 = .ok (.iconst 0, 1) := by decide +kernel
theorem dX6_settle_46 : decode cX6_settle 46 = .ok (.istore 5, 2) := by decide +kernel
theorem dX6_settle_48 : decode cX6_settle 48 = .ok (.iconst 0, 1) := by decide +kernel
theorem dX6_settle_49 : decode cX6_settle 49 = .ok (.istore 6, 2) := by decide +kernel
theorem dX6_settle_51 : decode cX6_settle 51 = .ok (.iload 6, 2) := by decide +kernel
theorem dX6_settle_53 : decode cX6_settle 53 = .ok (.aload_n 0, 1) := by decide +kernel
theorem dX6_settle_54 : decode cX6_settle 54 = .ok (.getfield 20, 3) := by decide +kernel
theorem dX6_settle_57 : decode cX6_settle 57 = .ok (.getfield 64, 3) := by decide +kernel
theorem dX6_settle_60 : decode cX6_settle 60 = .ok (.if_icmp .ge 63, 3) := by decide +kernel
theorem dX6_settle_63 : decode cX6_settle 63 = .ok (.aload_n 0, 1) := by decide +kernel
theorem dX6_settle_64 : decode cX6_settle 64 = .ok (.getfield 20, 3) := by decide +kernel
theorem dX6_settle_67 : decode cX6_settle 67 = .ok (.getfield 39, 3) := by decide +kernel
theorem dX6_settle_70 : decode cX6_settle 70 = .ok (.bipush 10, 2) := by decide +kernel
theorem dX6_settle_72 : decode cX6_settle 72 = .ok (.aaload, 1) := by decide +kernel
theorem dX6_settle_73 : decode cX6_settle 73 = .ok (.iload 6, 2) := by decide +kernel
theorem dX6_settle_75 : decode cX6_settle 75 = .ok (.iaload, 1) := by decide +kernel
theorem dX6_settle_76 : decode cX6_settle 76 = .ok (.istore 7, 2) := by decide +kernel
theorem dX6_settle_78 : decode cX6_settle 78 = .ok (.aload_n 0, 1) := by decide +kernel
theorem dX6_settle_79 : decode cX6_settle 79 = .ok (.getfield 58, 3) := by decide +kernel
theorem dX6_settle_82 : decode cX6_settle 82 = .ok (.iload 6, 2) := by decide +kernel
theorem dX6_settle_84 : decode cX6_settle 84 = .ok (.ishr, 1) := by decide +kernel
theorem dX6_settle_85 : decode cX6_settle 85 = .ok (.iconst 1, 1) := by decide +kernel
theorem dX6_settle_86 : decode cX6_settle 86 = .ok (.iand, 1) := by decide +kernel
theorem dX6_settle_87 : decode cX6_settle 87 = .ok (.ifCond .eq 30, 3) := by decide +kernel
theorem dX6_settle_90 : decode cX6_settle 90 = .ok (.iload 7, 2) := by decide +kernel
theorem dX6_settle_92 : decode cX6_settle 92 = .ok (.iload_n 3, 1) := by decide +kernel
theorem dX6_settle_93 : decode cX6_settle 93 = .ok (.if_icmp .eq 24, 3) := by decide +kernel
theorem dX6_settle_96 : decode cX6_settle 96 = .ok (.aload_n 2, 1) := by decide +kernel
theorem dX6_settle_97 : decode cX6_settle 97 = .ok (.bipush 6, 2) := by decide +kernel
theorem dX6_settle_99 : decode cX6_settle 99 = .ok (.iload_n 3, 1) := by decide +kernel
theorem dX6_settle_100 : decode cX6_settle 100 = .ok (.imul, 1) := by decide +kernel
theorem dX6_settle_101 : decode cX6_settle 101 = .ok (.iload 7, 2) := by decide +kernel
theorem dX6_settle_103 : decode cX6_settle 103 = .ok (.iadd, 1) := by decide +kernel
theorem dX6_settle_104 : decode cX6_settle 104 = .ok (.dup2, 1) := by decide +kernel
theorem dX6_settle_105 : decode cX6_settle 105 = .ok (.iaload, 1) := by decide +kernel
theorem dX6_settle_106 : decode cX6_settle 106 = .ok (.iload 4, 2) := by decide +kernel
theorem dX6_settle_108 : decode cX6_settle 108 = .ok (.iadd, 1) := by decide +kernel
theorem dX6_settle_109 : decode cX6_settle 109 = .ok (.iastore, 1) := by decide +kernel
theorem dX6_settle_110 : decode cX6_settle 110 = .ok (.iload 5, 2) := by decide +kernel
theorem dX6_settle_112 : decode cX6_settle 112 = .ok (.iload 4, 2) := by decide +kernel
theorem dX6_settle_114 : decode cX6_settle 114 = .ok (.iadd, 1) := by decide +kernel
theorem dX6_settle_115 : decode cX6_settle 115 = .ok (.istore 5, 2) := by decide +kernel
theorem dX6_settle_117 : decode cX6_settle 117 = .ok (.iinc 6 1, 3) := by decide +kernel
theorem dX6_settle_120 : decode cX6_settle 120 = .ok (.goto (-69), 3) := by decide +kernel
theorem dX6_settle_123 : decode cX6_settle 123 = .ok (.iload 5, 2) := by decide +kernel
theorem dX6_settle_125 : decode cX6_settle 125 = .ok (.ireturn, 1) := by decide +kernel
theorem ok_yX6_settle : yOk yX6_settle 2 := ⟨by decide +kernel, by decide +kernel, by decide +kernel⟩
def fX6_settle_1_51 (n : Nat) : Nat → St → Int32 → Int32 → Int32 → Int32 → Option (Int32 × St)
  | 0, _, _, _, _, _ => none
  | k + 1, st, v3, v4, v5, v6 => if gI st 1 3 ≤ v6 then (some (v5, st)) else (gd (inB v6 13) (bnd (gI st 13 v6.toNatClampNeg) (fun x13 => if ((gI st 24 2) >>> (v6 &&& 31)) &&& (1 : Int32) = 0 then (bnd (v6 + (1 : Int32)) (fun x16 => fX6_settle_1_51 n k st v3 v4 v5 x16)) else (if x13 = v3 then (bnd (v6 + (1 : Int32)) (fun x19 => fX6_settle_1_51 n k st v3 v4 v5 x19)) else (gd (inB (((6 : Int32) * v3) + x13) 36) (gd (inB (((6 : Int32) * v3) + x13) 36) (bnd (sI st 25 (((6 : Int32) * v3) + x13).toNatClampNeg ((gI st 25 (((6 : Int32) * v3) + x13).toNatClampNeg) + v4)) (fun st23 => bnd (v5 + v4) (fun x25 => bnd (v6 + (1 : Int32)) (fun x27 => fX6_settle_1_51 n k st23 v3 v4 x25 x27))))))))))
set_option maxHeartbeats 4000000 in
theorem tX6_settle_1_51 {p : Program} {l : Launch} {e : Env} {s : State} {m : MethodId} {args : Array Value} {below : List Frame} {meth : Method} {c : Code} {X : WX} (C : Amb 65 X p s m args meth c cX6_settle 8 RX6) (hr : meth.sig.returnType = some .int) {R : Int32 × St} {n : Nat} : ∀ (k : Nat) (st : St) (v3 : Int32) (v4 : Int32) (v5 : Int32) (v6 : Int32) (H : Heap) (locs : List Loc) (ls : Array Slot), Wd EC 65 X s.heap st H locs → lv_has ls 8 [(0, .ref (xq X 24)), (2, .ref (xq X 25)), (3, .int v3), (4, .int v4), (5, .int v5), (6, .int v6)] → fX6_settle_1_51 n k st v3 v4 v5 v6 = some R → W p l e { frames := 4, cells := 0, slots := 0, locals := 103 } s m args below meth c H locs 0 0 (QI EC 65 X R.1 R.2 below args s) (F0 m 51 ls []) := by
  obtain ⟨hx, hb, hml, hown, hts⟩ := id C.1
  intro k
  induction k with
  | zero => intro st v3 v4 v5 v6 H locs ls  hw hl hf; exact absurd (show none = some R from hf) (fun z => by cases z)
  | succ k ih =>
    intro st v3 v4 v5 v6 H locs ls  hw hl hf
    rw [fX6_settle_1_51] at hf
    refine lv_iload hx hb dX6_settle_51 (lv_at hl 5 rfl) ?_
    refine lv_aload_n hx hb dX6_settle_53 rfl (lv_at hl 0 rfl) ?_
    refine w_get (T := TX6) C hw (by decide) 4 kf_X6_20 (EC_24 X _ _) rfl inA6 (by decide) rfl dX6_settle_54 ?_
    refine w_get (T := TX3) C hw (by decide) 3 kf_X6_64 (EC_1 X _ _) rfl inA3 (by decide) rfl dX6_settle_57 ?_
    refine lv_icmp_ge (tgt := 123) hx hb dX6_settle_60 (by decide) (fun c11 => ?_) (fun c11 => ?_)
    · replace hf := ite_t hf c11
      refine lv_iload hx hb dX6_settle_123 (lv_at hl 4 rfl) ?_
      exact w_iret C hw hr (so2 hf).1 (so2 hf).2 dX6_settle_125
    · replace hf := ite_f hf c11
      refine lv_aload_n hx hb dX6_settle_63 rfl (lv_at hl 0 rfl) ?_
      refine w_get (T := TX6) C hw (by decide) 4 kf_X6_20 (EC_24 X _ _) rfl inA6 (by decide) rfl dX6_settle_64 ?_
      refine w_get (T := TX3) C hw (by decide) 0 kf_X6_39 (EC_1 X _ _) rfl inA3 (by decide) rfl dX6_settle_67 ?_
      refine lv_bipush (v := 10) hx hb dX6_settle_70 (by decide) ?_
      refine w_aald (k' := 13) C hw (by decide) (EC_2 X _ _) rfl rfl (by decide) rfl dX6_settle_72 ?_
      refine lv_iload hx hb dX6_settle_73 (lv_at hl 5 rfl) ?_
      obtain ⟨h12, hf⟩ := gd_some hf
      refine w_iald C hw (by decide) (EC_13 X _ _) h12 rfl dX6_settle_75 ?_
      refine lv_topi (fun x13 e14 => ?_)
      replace hf := bnd_nm hf e14
      refine lv_istore (lv' := [(7, .int x13), (0, .ref (xq X 24)), (2, .ref (xq X 25)), (3, .int v3), (4, .int v4), (5, .int v5), (6, .int v6)]) hx hb dX6_settle_76 hl (by decide) rfl (fun ls hl => ?_)
      refine lv_aload_n hx hb dX6_settle_78 rfl (lv_at hl 1 rfl) ?_
      refine w_get (T := TX6) C hw (by decide) 2 kf_X6_58 (EC_24 X _ _) rfl inA6 (by decide) rfl dX6_settle_79 ?_
      refine lv_iload hx hb dX6_settle_82 (lv_at hl 6 rfl) ?_
      refine lv_ishr hx hb dX6_settle_84 ?_
      refine lv_iconst (v := 1) hx hb dX6_settle_85 (by decide) ?_
      refine lv_iand hx hb dX6_settle_86 ?_
      refine lv_if_eq (tgt := 117) hx hb dX6_settle_87 (by decide) (fun c15 => ?_) (fun c15 => ?_)
      · replace hf := ite_t hf c15
        obtain ⟨x16, e17⟩ : ∃ z : Int32, z = v6 + (1 : Int32) := ⟨_, rfl⟩
        replace hf := bnd_nm hf e17
        refine lv_iinc (v := x16) (lv' := [(6, .int x16), (7, .int x13), (0, .ref (xq X 24)), (2, .ref (xq X 25)), (3, .int v3), (4, .int v4), (5, .int v5)]) hx hb dX6_settle_117 hl (k := 6) rfl (by rw [e17]; rfl) (by decide) rfl (fun ls hl => ?_)
        refine lv_goto (tgt := 51) hx hb dX6_settle_120 (by decide) ?_
        exact ih st v3 v4 v5 x16 _ _ _ hw (lv_sub hl [2, 3, 4, 5, 6, 0] rfl) hf
      · replace hf := ite_f hf c15
        refine lv_iload hx hb dX6_settle_90 (lv_at hl 0 rfl) ?_
        refine lv_iload_n hx hb dX6_settle_92 rfl (lv_at hl 3 rfl) ?_
        refine lv_icmp_eq (tgt := 117) hx hb dX6_settle_93 (by decide) (fun c18 => ?_) (fun c18 => ?_)
        · replace hf := ite_t hf c18
          obtain ⟨x19, e20⟩ : ∃ z : Int32, z = v6 + (1 : Int32) := ⟨_, rfl⟩
          replace hf := bnd_nm hf e20
          refine lv_iinc (v := x19) (lv' := [(6, .int x19), (7, .int x13), (0, .ref (xq X 24)), (2, .ref (xq X 25)), (3, .int v3), (4, .int v4), (5, .int v5)]) hx hb dX6_settle_117 hl (k := 6) rfl (by rw [e20]; rfl) (by decide) rfl (fun ls hl => ?_)
          refine lv_goto (tgt := 51) hx hb dX6_settle_120 (by decide) ?_
          exact ih st v3 v4 v5 x19 _ _ _ hw (lv_sub hl [2, 3, 4, 5, 6, 0] rfl) hf
        · replace hf := ite_f hf c18
          refine lv_aload_n hx hb dX6_settle_96 rfl (lv_at hl 2 rfl) ?_
          refine lv_bipush (v := 6) hx hb dX6_settle_97 (by decide) ?_
          refine lv_iload_n hx hb dX6_settle_99 rfl (lv_at hl 3 rfl) ?_
          refine lv_imul hx hb dX6_settle_100 ?_
          refine lv_iload hx hb dX6_settle_101 (lv_at hl 0 rfl) ?_
          refine lv_iadd hx hb dX6_settle_103 ?_
          refine lv_dup2_11 hx hb dX6_settle_104 rfl rfl ?_
          obtain ⟨h21, hf⟩ := gd_some hf
          refine w_iald C hw (by decide) (EC_25 X _ _) h21 rfl dX6_settle_105 ?_
          refine lv_iload hx hb dX6_settle_106 (lv_at hl 4 rfl) ?_
          refine lv_iadd hx hb dX6_settle_108 ?_
          obtain ⟨h22, hf⟩ := gd_some hf
          obtain ⟨st23, es24⟩ : ∃ z : St, z = sI st 25 (((6 : Int32) * v3) + x13).toNatClampNeg ((gI st 25 (((6 : Int32) * v3) + x13).toNatClampNeg) + v4) := ⟨_, rfl⟩
          replace hf := bnd_nm hf es24
          refine w_iast C hw (by decide) (fun f9 => EC_25 X f9 _) h22 rfl dX6_settle_109 (fun H locs hw => ?_)
          rw [← es24] at hw
          refine lv_iload hx hb dX6_settle_110 (lv_at hl 5 rfl) ?_
          refine lv_iload hx hb dX6_settle_112 (lv_at hl 4 rfl) ?_
          refine lv_iadd hx hb dX6_settle_114 ?_
          refine lv_topi (fun x25 e26 => ?_)
          replace hf := bnd_nm hf e26
          refine lv_istore (lv' := [(5, .int x25), (7, .int x13), (0, .ref (xq X 24)), (2, .ref (xq X 25)), (3, .int v3), (4, .int v4), (6, .int v6)]) hx hb dX6_settle_115 hl (by decide) rfl (fun ls hl => ?_)
          obtain ⟨x27, e28⟩ : ∃ z : Int32, z = v6 + (1 : Int32) := ⟨_, rfl⟩
          replace hf := bnd_nm hf e28
          refine lv_iinc (v := x27) (lv' := [(6, .int x27), (5, .int x25), (7, .int x13), (0, .ref (xq X 24)), (2, .ref (xq X 25)), (3, .int v3), (4, .int v4)]) hx hb dX6_settle_117 hl (k := 6) rfl (by rw [e28]; rfl) (by decide) rfl (fun ls hl => ?_)
          refine lv_goto (tgt := 51) hx hb dX6_settle_120 (by decide) ?_
          exact ih st23 v3 v4 x25 x27 _ _ _ hw (lv_sub hl [3, 4, 5, 6, 1, 0] rfl) hf
def fX6_settle_1 (n : Nat) (st : St) (a1 : Int32) : Option (Int32 × St) := (fX3_fieldUnder n st a1).bind (fun r1 => (fX3_ownerOf st r1).bind (fun r3 => (fX6_weigh n st a1 r3 (-1 : Int32)).bind (fun r5 => if r3 < 0 then (some ((0 : Int32), r5)) else (if gI r5 24 3 = 0 then (some ((0 : Int32), r5)) else (bnd ((12 : Int32) / (gI r5 24 3)) (fun x9 => fX6_settle_1_51 n n r5 r3 x9 (0 : Int32) (0 : Int32)))))))
set_option maxHeartbeats 4000000 in
theorem zX6_settle_1 (l : Launch) (X : WX) (n : Nat) (st : St) (a1 : Int32) (R : Int32 × St) (hf : fX6_settle_1 n st a1 = some R) : CtI l yX6_settle cX6_settle 8 .int ({ frames := 4, cells := 0, slots := 0, locals := 103 }) EC 65 X [.ref (xq X 24), .int a1, .ref (xq X 25)] st R.1 R.2 := by
  refine ct_in (own := RX6) (by decide +kernel) rfl (Nat.le_of_ble_eq_true rfl) (fun p e s m below meth c C hr hw ls hl => ?_)
  obtain ⟨hx, hb, hml, hown, hts⟩ := id C.1
  have hl : lv_has ls 8 [(0, .ref (xq X 24)), (1, .int a1), (2, .ref (xq X 25))] := hl
  unfold fX6_settle_1 at hf
  refine lv_aload_n hx hb dX6_settle_0 rfl (lv_at hl 0 rfl) ?_
  refine w_get (T := TX6) C hw (by decide) 4 kf_X6_20 (EC_24 X _ _) rfl inA6 (by decide) rfl dX6_settle_1 ?_
  refine lv_aload_n hx hb dX6_settle_4 rfl (lv_at hl 0 rfl) ?_
  refine w_get (T := TX6) C hw (by decide) 4 kf_X6_20 (EC_24 X _ _) rfl inA6 (by decide) rfl dX6_settle_5 ?_
  refine lv_iload_n hx hb dX6_settle_8 rfl (lv_at hl 1 rfl) ?_
  obtain ⟨r1, k2, hf⟩ := bd_some hf
  refine w_goI hw (w_runV (rest := [.ref (xq X 1)]) C hw (zX3_fieldUnder _ _ n st a1 r1 k2) (by decide) (EC_1 X _ _) rfl km_X6_28 ki_yX3_fieldUnder kv_X3_fieldUnder kz_X3 kc_X3_fieldUnder rfl ok_yX3_fieldUnder ⟨Nat.le_of_ble_eq_true rfl, Nat.le_of_ble_eq_true rfl⟩ rfl rfl rfl rfl hl.1 (Nat.le_of_ble_eq_true rfl) dX6_settle_9 ⟨Nat.zero_le _, Nat.zero_le _⟩) (fun H locs hw => ?_)
  obtain ⟨r3, k4, hf⟩ := bd_some hf
  refine w_goI hw (w_runV (rest := []) C hw (zX3_ownerOf _ _ st r1 r3 k4) (by decide) (EC_1 X _ _) rfl km_X6_32 ki_yX3_ownerOf kv_X3_ownerOf kz_X3 kc_X3_ownerOf rfl ok_yX3_ownerOf ⟨Nat.le_of_ble_eq_true rfl, Nat.le_of_ble_eq_true rfl⟩ rfl rfl rfl rfl hl.1 (Nat.le_of_ble_eq_true rfl) dX6_settle_12 ⟨Nat.zero_le _, Nat.zero_le _⟩) (fun H locs hw => ?_)
  refine lv_istore_n (lv' := [(3, .int r3), (0, .ref (xq X 24)), (1, .int a1), (2, .ref (xq X 25))]) hx hb dX6_settle_15 rfl hl (by decide) rfl (fun ls hl => ?_)
  refine lv_aload_n hx hb dX6_settle_16 rfl (lv_at hl 1 rfl) ?_
  refine lv_iload_n hx hb dX6_settle_17 rfl (lv_at hl 2 rfl) ?_
  refine lv_iload_n hx hb dX6_settle_18 rfl (lv_at hl 0 rfl) ?_
  refine lv_iconst (v := -1) hx hb dX6_settle_19 (by decide) ?_
  obtain ⟨r5, k6, hf⟩ := bd_some hf
  refine w_goV hw (w_runV (rest := []) C hw (zX6_weigh _ _ n st a1 r3 (-1 : Int32) r5 k6) (by decide) (EC_24 X _ _) rfl km_X6_67 ki_yX6_weigh kv_X6_weigh kz_X6 kc_X6_weigh rfl ok_yX6_weigh ⟨Nat.le_of_ble_eq_true rfl, Nat.le_of_ble_eq_true rfl⟩ rfl rfl rfl rfl hl.1 (Nat.le_of_ble_eq_true rfl) dX6_settle_20 ⟨Nat.zero_le _, Nat.zero_le _⟩) (fun H locs hw => ?_)
  refine lv_iload_n hx hb dX6_settle_23 rfl (lv_at hl 0 rfl) ?_
  refine lv_if_lt (tgt := 34) hx hb dX6_settle_24 (by decide) (fun c7 => ?_) (fun c7 => ?_)
  · replace hf := ite_t hf c7
    refine lv_iconst (v := 0) hx hb dX6_settle_34 (by decide) ?_
    exact w_iret C hw hr (so2 hf).1 (so2 hf).2 dX6_settle_35
  · replace hf := ite_f hf c7
    refine lv_aload_n hx hb dX6_settle_27 rfl (lv_at hl 1 rfl) ?_
    refine w_get (T := TX6) C hw (by decide) 3 kf_X6_61 (EC_24 X _ _) rfl inA6 (by decide) rfl dX6_settle_28 ?_
    refine lv_if_ne (tgt := 36) hx hb dX6_settle_31 (by decide) (fun c8 => ?_) (fun c8 => ?_)
    · replace hf := ite_f hf c8
      refine lv_bipush (v := 12) hx hb dX6_settle_36 (by decide) ?_
      refine lv_aload_n hx hb dX6_settle_38 rfl (lv_at hl 1 rfl) ?_
      refine w_get (T := TX6) C hw (by decide) 3 kf_X6_61 (EC_24 X _ _) rfl inA6 (by decide) rfl dX6_settle_39 ?_
      refine lv_idiv hx hb dX6_settle_42 c8 ?_
      refine lv_topi (fun x9 e10 => ?_)
      replace hf := bnd_nm hf e10
      refine lv_istore (lv' := [(4, .int x9), (3, .int r3), (0, .ref (xq X 24)), (1, .int a1), (2, .ref (xq X 25))]) hx hb dX6_settle_43 hl (by decide) rfl (fun ls hl => ?_)
      refine lv_iconst (v := 0) hx hb dX6_settle_45 (by decide) ?_
      refine lv_istore (lv' := [(5, .int (0 : Int32)), (4, .int x9), (3, .int r3), (0, .ref (xq X 24)), (1, .int a1), (2, .ref (xq X 25))]) hx hb dX6_settle_46 hl (by decide) rfl (fun ls hl => ?_)
      refine lv_iconst (v := 0) hx hb dX6_settle_48 (by decide) ?_
      refine lv_istore (lv' := [(6, .int (0 : Int32)), (5, .int (0 : Int32)), (4, .int x9), (3, .int r3), (0, .ref (xq X 24)), (1, .int a1), (2, .ref (xq X 25))]) hx hb dX6_settle_49 hl (by decide) rfl (fun ls hl => ?_)
      exact tX6_settle_1_51 C hr n r5 r3 x9 (0 : Int32) (0 : Int32) _ _ _ hw (lv_sub hl [4, 6, 3, 2, 1, 0] rfl) hf
    · replace hf := ite_t hf c8
      refine lv_iconst (v := 0) hx hb dX6_settle_34 (by decide) ?_
      exact w_iret C hw hr (so2 hf).1 (so2 hf).2 dX6_settle_35
def fX6_settle_2_51 (n : Nat) : Nat → St → Int32 → Int32 → Int32 → Int32 → Option (Int32 × St)
  | 0, _, _, _, _, _ => none
  | k + 1, st, v3, v4, v5, v6 => if gI st 1 3 ≤ v6 then (some (v5, st)) else (gd (inB v6 13) (bnd (gI st 13 v6.toNatClampNeg) (fun x13 => if ((gI st 24 2) >>> (v6 &&& 31)) &&& (1 : Int32) = 0 then (bnd (v6 + (1 : Int32)) (fun x16 => fX6_settle_2_51 n k st v3 v4 v5 x16)) else (if x13 = v3 then (bnd (v6 + (1 : Int32)) (fun x19 => fX6_settle_2_51 n k st v3 v4 v5 x19)) else (gd (inB (((6 : Int32) * v3) + x13) 36) (gd (inB (((6 : Int32) * v3) + x13) 36) (bnd (sI st 40 (((6 : Int32) * v3) + x13).toNatClampNeg ((gI st 40 (((6 : Int32) * v3) + x13).toNatClampNeg) + v4)) (fun st23 => bnd (v5 + v4) (fun x25 => bnd (v6 + (1 : Int32)) (fun x27 => fX6_settle_2_51 n k st23 v3 v4 x25 x27))))))))))
set_option maxHeartbeats 4000000 in
theorem tX6_settle_2_51 {p : Program} {l : Launch} {e : Env} {s : State} {m : MethodId} {args : Array Value} {below : List Frame} {meth : Method} {c : Code} {X : WX} (C : Amb 65 X p s m args meth c cX6_settle 8 RX6) (hr : meth.sig.returnType = some .int) {R : Int32 × St} {n : Nat} : ∀ (k : Nat) (st : St) (v3 : Int32) (v4 : Int32) (v5 : Int32) (v6 : Int32) (H : Heap) (locs : List Loc) (ls : Array Slot), Wd EC 65 X s.heap st H locs → lv_has ls 8 [(0, .ref (xq X 24)), (2, .ref (xq X 40)), (3, .int v3), (4, .int v4), (5, .int v5), (6, .int v6)] → fX6_settle_2_51 n k st v3 v4 v5 v6 = some R → W p l e { frames := 4, cells := 0, slots := 0, locals := 103 } s m args below meth c H locs 0 0 (QI EC 65 X R.1 R.2 below args s) (F0 m 51 ls []) := by
  obtain ⟨hx, hb, hml, hown, hts⟩ := id C.1
  intro k
  induction k with
  | zero => intro st v3 v4 v5 v6 H locs ls  hw hl hf; exact absurd (show none = some R from hf) (fun z => by cases z)
  | succ k ih =>
    intro st v3 v4 v5 v6 H locs ls  hw hl hf
    rw [fX6_settle_2_51] at hf
    refine lv_iload hx hb dX6_settle_51 (lv_at hl 5 rfl) ?_
    refine lv_aload_n hx hb dX6_settle_53 rfl (lv_at hl 0 rfl) ?_
    refine w_get (T := TX6) C hw (by decide) 4 kf_X6_20 (EC_24 X _ _) rfl inA6 (by decide) rfl dX6_settle_54 ?_
    refine w_get (T := TX3) C hw (by decide) 3 kf_X6_64 (EC_1 X _ _) rfl inA3 (by decide) rfl dX6_settle_57 ?_
    refine lv_icmp_ge (tgt := 123) hx hb dX6_settle_60 (by decide) (fun c11 => ?_) (fun c11 => ?_)
    · replace hf := ite_t hf c11
      refine lv_iload hx hb dX6_settle_123 (lv_at hl 4 rfl) ?_
      exact w_iret C hw hr (so2 hf).1 (so2 hf).2 dX6_settle_125
    · replace hf := ite_f hf c11
      refine lv_aload_n hx hb dX6_settle_63 rfl (lv_at hl 0 rfl) ?_
      refine w_get (T := TX6) C hw (by decide) 4 kf_X6_20 (EC_24 X _ _) rfl inA6 (by decide) rfl dX6_settle_64 ?_
      refine w_get (T := TX3) C hw (by decide) 0 kf_X6_39 (EC_1 X _ _) rfl inA3 (by decide) rfl dX6_settle_67 ?_
      refine lv_bipush (v := 10) hx hb dX6_settle_70 (by decide) ?_
      refine w_aald (k' := 13) C hw (by decide) (EC_2 X _ _) rfl rfl (by decide) rfl dX6_settle_72 ?_
      refine lv_iload hx hb dX6_settle_73 (lv_at hl 5 rfl) ?_
      obtain ⟨h12, hf⟩ := gd_some hf
      refine w_iald C hw (by decide) (EC_13 X _ _) h12 rfl dX6_settle_75 ?_
      refine lv_topi (fun x13 e14 => ?_)
      replace hf := bnd_nm hf e14
      refine lv_istore (lv' := [(7, .int x13), (0, .ref (xq X 24)), (2, .ref (xq X 40)), (3, .int v3), (4, .int v4), (5, .int v5), (6, .int v6)]) hx hb dX6_settle_76 hl (by decide) rfl (fun ls hl => ?_)
      refine lv_aload_n hx hb dX6_settle_78 rfl (lv_at hl 1 rfl) ?_
      refine w_get (T := TX6) C hw (by decide) 2 kf_X6_58 (EC_24 X _ _) rfl inA6 (by decide) rfl dX6_settle_79 ?_
      refine lv_iload hx hb dX6_settle_82 (lv_at hl 6 rfl) ?_
      refine lv_ishr hx hb dX6_settle_84 ?_
      refine lv_iconst (v := 1) hx hb dX6_settle_85 (by decide) ?_
      refine lv_iand hx hb dX6_settle_86 ?_
      refine lv_if_eq (tgt := 117) hx hb dX6_settle_87 (by decide) (fun c15 => ?_) (fun c15 => ?_)
      · replace hf := ite_t hf c15
        obtain ⟨x16, e17⟩ : ∃ z : Int32, z = v6 + (1 : Int32) := ⟨_, rfl⟩
        replace hf := bnd_nm hf e17
        refine lv_iinc (v := x16) (lv' := [(6, .int x16), (7, .int x13), (0, .ref (xq X 24)), (2, .ref (xq X 40)), (3, .int v3), (4, .int v4), (5, .int v5)]) hx hb dX6_settle_117 hl (k := 6) rfl (by rw [e17]; rfl) (by decide) rfl (fun ls hl => ?_)
        refine lv_goto (tgt := 51) hx hb dX6_settle_120 (by decide) ?_
        exact ih st v3 v4 v5 x16 _ _ _ hw (lv_sub hl [2, 3, 4, 5, 6, 0] rfl) hf
      · replace hf := ite_f hf c15
        refine lv_iload hx hb dX6_settle_90 (lv_at hl 0 rfl) ?_
        refine lv_iload_n hx hb dX6_settle_92 rfl (lv_at hl 3 rfl) ?_
        refine lv_icmp_eq (tgt := 117) hx hb dX6_settle_93 (by decide) (fun c18 => ?_) (fun c18 => ?_)
        · replace hf := ite_t hf c18
          obtain ⟨x19, e20⟩ : ∃ z : Int32, z = v6 + (1 : Int32) := ⟨_, rfl⟩
          replace hf := bnd_nm hf e20
          refine lv_iinc (v := x19) (lv' := [(6, .int x19), (7, .int x13), (0, .ref (xq X 24)), (2, .ref (xq X 40)), (3, .int v3), (4, .int v4), (5, .int v5)]) hx hb dX6_settle_117 hl (k := 6) rfl (by rw [e20]; rfl) (by decide) rfl (fun ls hl => ?_)
          refine lv_goto (tgt := 51) hx hb dX6_settle_120 (by decide) ?_
          exact ih st v3 v4 v5 x19 _ _ _ hw (lv_sub hl [2, 3, 4, 5, 6, 0] rfl) hf
        · replace hf := ite_f hf c18
          refine lv_aload_n hx hb dX6_settle_96 rfl (lv_at hl 2 rfl) ?_
          refine lv_bipush (v := 6) hx hb dX6_settle_97 (by decide) ?_
          refine lv_iload_n hx hb dX6_settle_99 rfl (lv_at hl 3 rfl) ?_
          refine lv_imul hx hb dX6_settle_100 ?_
          refine lv_iload hx hb dX6_settle_101 (lv_at hl 0 rfl) ?_
          refine lv_iadd hx hb dX6_settle_103 ?_
          refine lv_dup2_11 hx hb dX6_settle_104 rfl rfl ?_
          obtain ⟨h21, hf⟩ := gd_some hf
          refine w_iald C hw (by decide) (EC_40 X _ _) h21 rfl dX6_settle_105 ?_
          refine lv_iload hx hb dX6_settle_106 (lv_at hl 4 rfl) ?_
          refine lv_iadd hx hb dX6_settle_108 ?_
          obtain ⟨h22, hf⟩ := gd_some hf
          obtain ⟨st23, es24⟩ : ∃ z : St, z = sI st 40 (((6 : Int32) * v3) + x13).toNatClampNeg ((gI st 40 (((6 : Int32) * v3) + x13).toNatClampNeg) + v4) := ⟨_, rfl⟩
          replace hf := bnd_nm hf es24
          refine w_iast C hw (by decide) (fun f9 => EC_40 X f9 _) h22 rfl dX6_settle_109 (fun H locs hw => ?_)
          rw [← es24] at hw
          refine lv_iload hx hb dX6_settle_110 (lv_at hl 5 rfl) ?_
          refine lv_iload hx hb dX6_settle_112 (lv_at hl 4 rfl) ?_
          refine lv_iadd hx hb dX6_settle_114 ?_
          refine lv_topi (fun x25 e26 => ?_)
          replace hf := bnd_nm hf e26
          refine lv_istore (lv' := [(5, .int x25), (7, .int x13), (0, .ref (xq X 24)), (2, .ref (xq X 40)), (3, .int v3), (4, .int v4), (6, .int v6)]) hx hb dX6_settle_115 hl (by decide) rfl (fun ls hl => ?_)
          obtain ⟨x27, e28⟩ : ∃ z : Int32, z = v6 + (1 : Int32) := ⟨_, rfl⟩
          replace hf := bnd_nm hf e28
          refine lv_iinc (v := x27) (lv' := [(6, .int x27), (5, .int x25), (7, .int x13), (0, .ref (xq X 24)), (2, .ref (xq X 40)), (3, .int v3), (4, .int v4)]) hx hb dX6_settle_117 hl (k := 6) rfl (by rw [e28]; rfl) (by decide) rfl (fun ls hl => ?_)
          refine lv_goto (tgt := 51) hx hb dX6_settle_120 (by decide) ?_
          exact ih st23 v3 v4 x25 x27 _ _ _ hw (lv_sub hl [3, 4, 5, 6, 1, 0] rfl) hf
def fX6_settle_2 (n : Nat) (st : St) (a1 : Int32) : Option (Int32 × St) := (fX3_fieldUnder n st a1).bind (fun r1 => (fX3_ownerOf st r1).bind (fun r3 => (fX6_weigh n st a1 r3 (-1 : Int32)).bind (fun r5 => if r3 < 0 then (some ((0 : Int32), r5)) else (if gI r5 24 3 = 0 then (some ((0 : Int32), r5)) else (bnd ((12 : Int32) / (gI r5 24 3)) (fun x9 => fX6_settle_2_51 n n r5 r3 x9 (0 : Int32) (0 : Int32)))))))
set_option maxHeartbeats 4000000 in
theorem zX6_settle_2 (l : Launch) (X : WX) (n : Nat) (st : St) (a1 : Int32) (R : Int32 × St) (hf : fX6_settle_2 n st a1 = some R) : CtI l yX6_settle cX6_settle 8 .int ({ frames := 4, cells := 0, slots := 0, locals := 103 }) EC 65 X [.ref (xq X 24), .int a1, .ref (xq X 40)] st R.1 R.2 := by
  refine ct_in (own := RX6) (by decide +kernel) rfl (Nat.le_of_ble_eq_true rfl) (fun p e s m below meth c C hr hw ls hl => ?_)
  obtain ⟨hx, hb, hml, hown, hts⟩ := id C.1
  have hl : lv_has ls 8 [(0, .ref (xq X 24)), (1, .int a1), (2, .ref (xq X 40))] := hl
  unfold fX6_settle_2 at hf
  refine lv_aload_n hx hb dX6_settle_0 rfl (lv_at hl 0 rfl) ?_
  refine w_get (T := TX6) C hw (by decide) 4 kf_X6_20 (EC_24 X _ _) rfl inA6 (by decide) rfl dX6_settle_1 ?_
  refine lv_aload_n hx hb dX6_settle_4 rfl (lv_at hl 0 rfl) ?_
  refine w_get (T := TX6) C hw (by decide) 4 kf_X6_20 (EC_24 X _ _) rfl inA6 (by decide) rfl dX6_settle_5 ?_
  refine lv_iload_n hx hb dX6_settle_8 rfl (lv_at hl 1 rfl) ?_
  obtain ⟨r1, k2, hf⟩ := bd_some hf
  refine w_goI hw (w_runV (rest := [.ref (xq X 1)]) C hw (zX3_fieldUnder _ _ n st a1 r1 k2) (by decide) (EC_1 X _ _) rfl km_X6_28 ki_yX3_fieldUnder kv_X3_fieldUnder kz_X3 kc_X3_fieldUnder rfl ok_yX3_fieldUnder ⟨Nat.le_of_ble_eq_true rfl, Nat.le_of_ble_eq_true rfl⟩ rfl rfl rfl rfl hl.1 (Nat.le_of_ble_eq_true rfl) dX6_settle_9 ⟨Nat.zero_le _, Nat.zero_le _⟩) (fun H locs hw => ?_)
  obtain ⟨r3, k4, hf⟩ := bd_some hf
  refine w_goI hw (w_runV (rest := []) C hw (zX3_ownerOf _ _ st r1 r3 k4) (by decide) (EC_1 X _ _) rfl km_X6_32 ki_yX3_ownerOf kv_X3_ownerOf kz_X3 kc_X3_ownerOf rfl ok_yX3_ownerOf ⟨Nat.le_of_ble_eq_true rfl, Nat.le_of_ble_eq_true rfl⟩ rfl rfl rfl rfl hl.1 (Nat.le_of_ble_eq_true rfl) dX6_settle_12 ⟨Nat.zero_le _, Nat.zero_le _⟩) (fun H locs hw => ?_)
  refine lv_istore_n (lv' := [(3, .int r3), (0, .ref (xq X 24)), (1, .int a1), (2, .ref (xq X 40))]) hx hb dX6_settle_15 rfl hl (by decide) rfl (fun ls hl => ?_)
  refine lv_aload_n hx hb dX6_settle_16 rfl (lv_at hl 1 rfl) ?_
  refine lv_iload_n hx hb dX6_settle_17 rfl (lv_at hl 2 rfl) ?_
  refine lv_iload_n hx hb dX6_settle_18 rfl (lv_at hl 0 rfl) ?_
  refine lv_iconst (v := -1) hx hb dX6_settle_19 (by decide) ?_
  obtain ⟨r5, k6, hf⟩ := bd_some hf
  refine w_goV hw (w_runV (rest := []) C hw (zX6_weigh _ _ n st a1 r3 (-1 : Int32) r5 k6) (by decide) (EC_24 X _ _) rfl km_X6_67 ki_yX6_weigh kv_X6_weigh kz_X6 kc_X6_weigh rfl ok_yX6_weigh ⟨Nat.le_of_ble_eq_true rfl, Nat.le_of_ble_eq_true rfl⟩ rfl rfl rfl rfl hl.1 (Nat.le_of_ble_eq_true rfl) dX6_settle_20 ⟨Nat.zero_le _, Nat.zero_le _⟩) (fun H locs hw => ?_)
  refine lv_iload_n hx hb dX6_settle_23 rfl (lv_at hl 0 rfl) ?_
  refine lv_if_lt (tgt := 34) hx hb dX6_settle_24 (by decide) (fun c7 => ?_) (fun c7 => ?_)
  · replace hf := ite_t hf c7
    refine lv_iconst (v := 0) hx hb dX6_settle_34 (by decide) ?_
    exact w_iret C hw hr (so2 hf).1 (so2 hf).2 dX6_settle_35
  · replace hf := ite_f hf c7
    refine lv_aload_n hx hb dX6_settle_27 rfl (lv_at hl 1 rfl) ?_
    refine w_get (T := TX6) C hw (by decide) 3 kf_X6_61 (EC_24 X _ _) rfl inA6 (by decide) rfl dX6_settle_28 ?_
    refine lv_if_ne (tgt := 36) hx hb dX6_settle_31 (by decide) (fun c8 => ?_) (fun c8 => ?_)
    · replace hf := ite_f hf c8
      refine lv_bipush (v := 12) hx hb dX6_settle_36 (by decide) ?_
      refine lv_aload_n hx hb dX6_settle_38 rfl (lv_at hl 1 rfl) ?_
      refine w_get (T := TX6) C hw (by decide) 3 kf_X6_61 (EC_24 X _ _) rfl inA6 (by decide) rfl dX6_settle_39 ?_
      refine lv_idiv hx hb dX6_settle_42 c8 ?_
      refine lv_topi (fun x9 e10 => ?_)
      replace hf := bnd_nm hf e10
      refine lv_istore (lv' := [(4, .int x9), (3, .int r3), (0, .ref (xq X 24)), (1, .int a1), (2, .ref (xq X 40))]) hx hb dX6_settle_43 hl (by decide) rfl (fun ls hl => ?_)
      refine lv_iconst (v := 0) hx hb dX6_settle_45 (by decide) ?_
      refine lv_istore (lv' := [(5, .int (0 : Int32)), (4, .int x9), (3, .int r3), (0, .ref (xq X 24)), (1, .int a1), (2, .ref (xq X 40))]) hx hb dX6_settle_46 hl (by decide) rfl (fun ls hl => ?_)
      refine lv_iconst (v := 0) hx hb dX6_settle_48 (by decide) ?_
      refine lv_istore (lv' := [(6, .int (0 : Int32)), (5, .int (0 : Int32)), (4, .int x9), (3, .int r3), (0, .ref (xq X 24)), (1, .int a1), (2, .ref (xq X 40))]) hx hb dX6_settle_49 hl (by decide) rfl (fun ls hl => ?_)
      exact tX6_settle_2_51 C hr n r5 r3 x9 (0 : Int32) (0 : Int32) _ _ _ hw (lv_sub hl [4, 6, 3, 2, 1, 0] rfl) hf
    · replace hf := ite_t hf c8
      refine lv_iconst (v := 0) hx hb dX6_settle_34 (by decide) ?_
      exact w_iret C hw hr (so2 hf).1 (so2 hf).2 dX6_settle_35
theorem dX6_reckonDebts_0 : decode cX6_reckonDebts 0 = .ok (.aload_n 0, 1) := by decide +kernel
theorem dX6_reckonDebts_1 : decode cX6_reckonDebts 1 = .ok (.getfield 9, 3) := by decide +kernel
theorem dX6_reckonDebts_4 : decode cX6_reckonDebts 4 = .ok (.iconst 0, 1) := by decide +kernel
theorem dX6_reckonDebts_5 : decode cX6_reckonDebts 5 = .ok (.invokestatic 71, 3) := by decide +kernel
theorem dX6_reckonDebts_8 : decode cX6_reckonDebts 8 = .ok (.iconst 0, 1) := by decide +kernel
theorem dX6_reckonDebts_9 : decode cX6_reckonDebts 9 = .ok (.istore_n 1, 1) := by decide +kernel
theorem dX6_reckonDebts_10 : decode cX6_reckonDebts 10 = .ok (.iload_n 1, 1) := by decide +kernel
theorem dX6_reckonDebts_11 : decode cX6_reckonDebts 11 = .ok (.aload_n 0, 1) := by decide +kernel
theorem dX6_reckonDebts_12 : decode cX6_reckonDebts 12 = .ok (.getfield 20, 3) := by decide +kernel
theorem dX6_reckonDebts_15 : decode cX6_reckonDebts 15 = .ok (.getfield 77, 3) := by decide +kernel
theorem dX6_reckonDebts_18 : decode cX6_reckonDebts 18 = .ok (.if_icmp .ge 19, 3) := by decide +kernel
theorem dX6_reckonDebts_21 : decode cX6_reckonDebts 21 = .ok (.aload_n 0, 1) := by decide +kernel
theorem dX6_reckonDebts_22 : decode cX6_reckonDebts 22 = .ok (.iload_n 1, 1) := by decide +kernel
theorem dX6_reckonDebts_23 : decode cX6_reckonDebts 23 = .ok (.aload_n 0, 1) := by decide +kernel
theorem dX6_reckonDebts_24 : decode cX6_reckonDebts 24 = .ok (.getfield 9, 3) := by decide +kernel
theorem dX6_reckonDebts_27 : decode cX6_reckonDebts 27 = .ok (.invokevirtual 80, 3) := by decide +kernel
theorem dX6_reckonDebts_30 : decode cX6_reckonDebts 30 = .ok (.pop, 1) := by decide +kernel
theorem dX6_reckonDebts_31 : decode cX6_reckonDebts 31 = .ok (.iinc 1 1, 3) := by decide +kernel
theorem dX6_reckonDebts_34 : decode cX6_reckonDebts 34 = .ok (.goto (-24), 3) := by decide +kernel
theorem dX6_reckonDebts_37 : decode cX6_reckonDebts 37 = .ok (.return_, 1) := by decide +kernel
theorem ok_yX6_reckonDebts : yOk yX6_reckonDebts 0 := ⟨by decide +kernel, by decide +kernel, by decide +kernel⟩
def fX6_reckonDebts_10 (n : Nat) : Nat → St → Int32 → Option (St)
  | 0, _, _ => none
  | k + 1, st, v1 => if gI st 1 2 ≤ v1 then (some st) else ((fX6_settle_1 n st v1).bind (fun r4 => bnd (v1 + (1 : Int32)) (fun x6 => fX6_reckonDebts_10 n k r4.2 x6)))
set_option maxHeartbeats 4000000 in
theorem tX6_reckonDebts_10 {p : Program} {l : Launch} {e : Env} {s : State} {m : MethodId} {args : Array Value} {below : List Frame} {meth : Method} {c : Code} {X : WX} (C : Amb 65 X p s m args meth c cX6_reckonDebts 2 RX6) (hr : meth.sig.returnType = none) {R : St} {n : Nat} : ∀ (k : Nat) (st : St) (v1 : Int32) (H : Heap) (locs : List Loc) (ls : Array Slot), Wd EC 65 X s.heap st H locs → lv_has ls 2 [(0, .ref (xq X 24)), (1, .int v1)] → fX6_reckonDebts_10 n k st v1 = some R → W p l e { frames := 5, cells := 0, slots := 0, locals := 130 } s m args below meth c H locs 0 0 (QV EC 65 X R below args s) (F0 m 10 ls []) := by
  obtain ⟨hx, hb, hml, hown, hts⟩ := id C.1
  intro k
  induction k with
  | zero => intro st v1 H locs ls  hw hl hf; exact absurd (show none = some R from hf) (fun z => by cases z)
  | succ k ih =>
    intro st v1 H locs ls  hw hl hf
    rw [fX6_reckonDebts_10] at hf
    refine lv_iload_n hx hb dX6_reckonDebts_10 rfl (lv_at hl 1 rfl) ?_
    refine lv_aload_n hx hb dX6_reckonDebts_11 rfl (lv_at hl 0 rfl) ?_
    refine w_get (T := TX6) C hw (by decide) 4 kf_X6_20 (EC_24 X _ _) rfl inA6 (by decide) rfl dX6_reckonDebts_12 ?_
    refine w_get (T := TX3) C hw (by decide) 2 kf_X6_77 (EC_1 X _ _) rfl inA3 (by decide) rfl dX6_reckonDebts_15 ?_
    refine lv_icmp_ge (tgt := 37) hx hb dX6_reckonDebts_18 (by decide) (fun c3 => ?_) (fun c3 => ?_)
    · replace hf := ite_t hf c3
      exact w_vret C hw hr (Option.some.inj hf) dX6_reckonDebts_37
    · replace hf := ite_f hf c3
      refine lv_aload_n hx hb dX6_reckonDebts_21 rfl (lv_at hl 0 rfl) ?_
      refine lv_iload_n hx hb dX6_reckonDebts_22 rfl (lv_at hl 1 rfl) ?_
      refine lv_aload_n hx hb dX6_reckonDebts_23 rfl (lv_at hl 0 rfl) ?_
      refine w_get (T := TX6) C hw (by decide) 0 kf_X6_9 (EC_24 X _ _) rfl inA6 (by decide) rfl dX6_reckonDebts_24 ?_
      obtain ⟨r4, k5, hf⟩ := bd_some hf
      refine w_goI hw (w_runV (rest := []) C hw (zX6_settle_1 _ _ n st v1 r4 k5) (by decide) (EC_24 X _ _) rfl km_X6_80 ki_yX6_settle kv_X6_settle kz_X6 kc_X6_settle rfl ok_yX6_settle ⟨Nat.le_of_ble_eq_true rfl, Nat.le_of_ble_eq_true rfl⟩ rfl rfl rfl rfl hl.1 (Nat.le_of_ble_eq_true rfl) dX6_reckonDebts_27 ⟨Nat.zero_le _, Nat.zero_le _⟩) (fun H locs hw => ?_)
      refine lv_pop hx hb dX6_reckonDebts_30 rfl ?_
      obtain ⟨x6, e7⟩ : ∃ z : Int32, z = v1 + (1 : Int32) := ⟨_, rfl⟩
      replace hf := bnd_nm hf e7
      refine lv_iinc (v := x6) (lv' := [(1, .int x6), (0, .ref (xq X 24))]) hx hb dX6_reckonDebts_31 hl (k := 1) rfl (by rw [e7]; rfl) (by decide) rfl (fun ls hl => ?_)
      refine lv_goto (tgt := 10) hx hb dX6_reckonDebts_34 (by decide) ?_
      exact ih r4.2 x6 _ _ _ hw (lv_sub hl [1, 0] rfl) hf
def fX6_reckonDebts (n : Nat) (st : St) : Option (St) := bnd (sIs st 25 (flI (gI st 25) 36 (0 : Int32))) (fun st1 => fX6_reckonDebts_10 n n st1 (0 : Int32))
set_option maxHeartbeats 4000000 in
theorem zX6_reckonDebts (l : Launch) (X : WX) (n : Nat) (st : St)  (R : St) (hf : fX6_reckonDebts n st = some R) : CtV l yX6_reckonDebts cX6_reckonDebts 2 ({ frames := 5, cells := 0, slots := 0, locals := 130 }) EC 65 X [.ref (xq X 24)] st R := by
  refine ct_in (own := RX6) (by decide +kernel) rfl (Nat.le_of_ble_eq_true rfl) (fun p e s m below meth c C hr hw ls hl => ?_)
  obtain ⟨hx, hb, hml, hown, hts⟩ := id C.1
  have hl : lv_has ls 2 [(0, .ref (xq X 24))] := hl
  unfold fX6_reckonDebts at hf
  refine lv_aload_n hx hb dX6_reckonDebts_0 rfl (lv_at hl 0 rfl) ?_
  refine w_get (T := TX6) C hw (by decide) 0 kf_X6_9 (EC_24 X _ _) rfl inA6 (by decide) rfl dX6_reckonDebts_1 ?_
  refine lv_iconst (v := 0) hx hb dX6_reckonDebts_4 (by decide) ?_
  obtain ⟨st1, es2⟩ : ∃ z : St, z = sIs st 25 (flI (gI st 25) 36 (0 : Int32)) := ⟨_, rfl⟩
  replace hf := bnd_nm hf es2
  refine w_goV hw (w_runS (rest := []) C hw (zfillI _ _ st 25 36 (0 : Int32) (by decide) (fun f9 => EC_25 X f9 _) (by decide)) km_X6_71 kt_yJ7_fill_53178 kz_J7 kc_J7_fill_53178 ok_yJ7_fill_53178 ⟨Nat.le_of_ble_eq_true rfl, Nat.le_of_ble_eq_true rfl⟩ rfl rfl rfl rfl hl.1 (Nat.le_of_ble_eq_true rfl) dX6_reckonDebts_5 ⟨Nat.zero_le _, Nat.zero_le _⟩) (fun H locs hw => ?_)
  rw [← es2] at hw
  refine lv_iconst (v := 0) hx hb dX6_reckonDebts_8 (by decide) ?_
  refine lv_istore_n (lv' := [(1, .int (0 : Int32)), (0, .ref (xq X 24))]) hx hb dX6_reckonDebts_9 rfl hl (by decide) rfl (fun ls hl => ?_)
  exact tX6_reckonDebts_10 C hr n st1 (0 : Int32) _ _ _ hw (lv_sub hl [1, 0] rfl) hf
theorem dX6_owes_0 : decode cX6_owes 0 = .ok (.iconst 0, 1) := by decide +kernel
theorem dX6_owes_1 : decode cX6_owes 1 = .ok (.istore_n 2, 1) := by decide +kernel
theorem dX6_owes_2 : decode cX6_owes 2 = .ok (.iconst 0, 1) := by decide +kernel
theorem dX6_owes_3 : decode cX6_owes 3 = .ok (.istore_n 3, 1) := by decide +kernel
theorem dX6_owes_4 : decode cX6_owes 4 = .ok (.iload_n 3, 1) := by decide +kernel
theorem dX6_owes_5 : decode cX6_owes 5 = .ok (.bipush 6, 2) := by decide +kernel
theorem dX6_owes_7 : decode cX6_owes 7 = .ok (.if_icmp .ge 23, 3) := by decide +kernel
theorem dX6_owes_10 : decode cX6_owes 10 = .ok (.iload_n 2, 1) := by decide +kernel
theorem dX6_owes_11 : decode cX6_owes 11 = .ok (.aload_n 0, 1) := by decide +kernel
theorem dX6_owes_12 : decode cX6_owes 12 = .ok (.getfield 9, 3) := by decide +kernel
theorem dX6_owes_15 : decode cX6_owes 15 = .ok (.bipush 6, 2) := by decide +kernel
theorem dX6_owes_17 : decode cX6_owes 17 = .ok (.iload_n 1, 1) := by decide +kernel
theorem dX6_owes_18 : decode cX6_owes 18 = .ok (.imul, 1) := by decide +kernel
theorem dX6_owes_19 : decode cX6_owes 19 = .ok (.iload_n 3, 1) := by decide +kernel
theorem dX6_owes_20 : decode cX6_owes 20 = .ok (.iadd, 1) := by decide +kernel
theorem dX6_owes_21 : decode cX6_owes 21 = .ok (.iaload, 1) := by decide +kernel
theorem dX6_owes_22 : decode cX6_owes 22 = .ok (.iadd, 1) := by decide +kernel
theorem dX6_owes_23 : decode cX6_owes 23 = .ok (.istore_n 2, 1) := by decide +kernel
theorem dX6_owes_24 : decode cX6_owes 24 = .ok (.iinc 3 1, 3) := by decide +kernel
theorem dX6_owes_27 : decode cX6_owes 27 = .ok (.goto (-23), 3) := by decide +kernel
theorem dX6_owes_30 : decode cX6_owes 30 = .ok (.iload_n 2, 1) := by decide +kernel
theorem dX6_owes_31 : decode cX6_owes 31 = .ok (.ireturn, 1) := by decide +kernel
theorem ok_yX6_owes : yOk yX6_owes 1 := ⟨by decide +kernel, by decide +kernel, by decide +kernel⟩
def fX6_owes_4 (n : Nat) (st : St) : Nat → Int32 → Int32 → Int32 → Option (Int32)
  | 0, _, _, _ => none
  | k + 1, v1, v2, v3 => if (6 : Int32) ≤ v3 then (some v2) else (gd (inB (((6 : Int32) * v1) + v3) 36) (bnd (v2 + (gI st 25 (((6 : Int32) * v1) + v3).toNatClampNeg)) (fun x3 => bnd (v3 + (1 : Int32)) (fun x5 => fX6_owes_4 n st k v1 x3 x5))))
set_option maxHeartbeats 4000000 in
theorem tX6_owes_4 {p : Program} {l : Launch} {e : Env} {s : State} {m : MethodId} {args : Array Value} {below : List Frame} {meth : Method} {c : Code} {X : WX} (C : Amb 65 X p s m args meth c cX6_owes 4 RX6) (hr : meth.sig.returnType = some .int) {R : Int32} {n : Nat} {st : St} : ∀ (k : Nat) (v1 : Int32) (v2 : Int32) (v3 : Int32) (H : Heap) (locs : List Loc) (ls : Array Slot), Wd EC 65 X s.heap st H locs → lv_has ls 4 [(0, .ref (xq X 24)), (1, .int v1), (2, .int v2), (3, .int v3)] → fX6_owes_4 n st k v1 v2 v3 = some R → W p l e { frames := 0, cells := 0, slots := 0, locals := 0 } s m args below meth c H locs 0 0 (QI EC 65 X R st below args s) (F0 m 4 ls []) := by
  obtain ⟨hx, hb, hml, hown, hts⟩ := id C.1
  intro k
  induction k with
  | zero => intro v1 v2 v3 H locs ls  hw hl hf; exact absurd (show none = some R from hf) (fun z => by cases z)
  | succ k ih =>
    intro v1 v2 v3 H locs ls  hw hl hf
    rw [fX6_owes_4] at hf
    refine lv_iload_n hx hb dX6_owes_4 rfl (lv_at hl 3 rfl) ?_
    refine lv_bipush (v := 6) hx hb dX6_owes_5 (by decide) ?_
    refine lv_icmp_ge (tgt := 30) hx hb dX6_owes_7 (by decide) (fun c1 => ?_) (fun c1 => ?_)
    · replace hf := ite_t hf c1
      refine lv_iload_n hx hb dX6_owes_30 rfl (lv_at hl 2 rfl) ?_
      exact w_iret C hw hr (Option.some.inj hf) rfl dX6_owes_31
    · replace hf := ite_f hf c1
      refine lv_iload_n hx hb dX6_owes_10 rfl (lv_at hl 2 rfl) ?_
      refine lv_aload_n hx hb dX6_owes_11 rfl (lv_at hl 0 rfl) ?_
      refine w_get (T := TX6) C hw (by decide) 0 kf_X6_9 (EC_24 X _ _) rfl inA6 (by decide) rfl dX6_owes_12 ?_
      refine lv_bipush (v := 6) hx hb dX6_owes_15 (by decide) ?_
      refine lv_iload_n hx hb dX6_owes_17 rfl (lv_at hl 1 rfl) ?_
      refine lv_imul hx hb dX6_owes_18 ?_
      refine lv_iload_n hx hb dX6_owes_19 rfl (lv_at hl 3 rfl) ?_
      refine lv_iadd hx hb dX6_owes_20 ?_
      obtain ⟨h2, hf⟩ := gd_some hf
      refine w_iald C hw (by decide) (EC_25 X _ _) h2 rfl dX6_owes_21 ?_
      refine lv_iadd hx hb dX6_owes_22 ?_
      refine lv_topi (fun x3 e4 => ?_)
      replace hf := bnd_nm hf e4
      refine lv_istore_n (lv' := [(2, .int x3), (0, .ref (xq X 24)), (1, .int v1), (3, .int v3)]) hx hb dX6_owes_23 rfl hl (by decide) rfl (fun ls hl => ?_)
      obtain ⟨x5, e6⟩ : ∃ z : Int32, z = v3 + (1 : Int32) := ⟨_, rfl⟩
      replace hf := bnd_nm hf e6
      refine lv_iinc (v := x5) (lv' := [(3, .int x5), (2, .int x3), (0, .ref (xq X 24)), (1, .int v1)]) hx hb dX6_owes_24 hl (k := 3) rfl (by rw [e6]; rfl) (by decide) rfl (fun ls hl => ?_)
      refine lv_goto (tgt := 4) hx hb dX6_owes_27 (by decide) ?_
      exact ih v1 x3 x5 _ _ _ hw (lv_sub hl [2, 3, 1, 0] rfl) hf
def fX6_owes (n : Nat) (st : St) (a1 : Int32) : Option (Int32) := fX6_owes_4 n st n a1 (0 : Int32) (0 : Int32)
set_option maxHeartbeats 4000000 in
theorem zX6_owes (l : Launch) (X : WX) (n : Nat) (st : St) (a1 : Int32) (R : Int32) (hf : fX6_owes n st a1 = some R) : CtI l yX6_owes cX6_owes 4 .int ({ frames := 0, cells := 0, slots := 0, locals := 0 }) EC 65 X [.ref (xq X 24), .int a1] st R st := by
  refine ct_in (own := RX6) (by decide +kernel) rfl (Nat.le_of_ble_eq_true rfl) (fun p e s m below meth c C hr hw ls hl => ?_)
  obtain ⟨hx, hb, hml, hown, hts⟩ := id C.1
  have hl : lv_has ls 4 [(0, .ref (xq X 24)), (1, .int a1)] := hl
  unfold fX6_owes at hf
  refine lv_iconst (v := 0) hx hb dX6_owes_0 (by decide) ?_
  refine lv_istore_n (lv' := [(2, .int (0 : Int32)), (0, .ref (xq X 24)), (1, .int a1)]) hx hb dX6_owes_1 rfl hl (by decide) rfl (fun ls hl => ?_)
  refine lv_iconst (v := 0) hx hb dX6_owes_2 (by decide) ?_
  refine lv_istore_n (lv' := [(3, .int (0 : Int32)), (2, .int (0 : Int32)), (0, .ref (xq X 24)), (1, .int a1)]) hx hb dX6_owes_3 rfl hl (by decide) rfl (fun ls hl => ?_)
  exact tX6_owes_4 C hr n a1 (0 : Int32) (0 : Int32) _ _ _ hw (lv_sub hl [2, 3, 1, 0] rfl) hf
theorem dX6_isOwed_0 : decode cX6_isOwed 0 = .ok (.iconst 0, 1) := by decide +kernel
theorem dX6_isOwed_1 : decode cX6_isOwed 1 = .ok (.istore_n 2, 1) := by decide +kernel
theorem dX6_isOwed_2 : decode cX6_isOwed 2 = .ok (.iconst 0, 1) := by decide +kernel
theorem dX6_isOwed_3 : decode cX6_isOwed 3 = .ok (.istore_n 3, 1) := by decide +kernel
theorem dX6_isOwed_4 : decode cX6_isOwed 4 = .ok (.iload_n 3, 1) := by decide +kernel
theorem dX6_isOwed_5 : decode cX6_isOwed 5 = .ok (.bipush 6, 2) := by decide +kernel
theorem dX6_isOwed_7 : decode cX6_isOwed 7 = .ok (.if_icmp .ge 23, 3) := by decide +kernel
theorem dX6_isOwed_10 : decode cX6_isOwed 10 = .ok (.iload_n 2, 1) := by decide +kernel
theorem dX6_isOwed_11 : decode cX6_isOwed 11 = .ok (.aload_n 0, 1) := by decide +kernel
theorem dX6_isOwed_12 : decode cX6_isOwed 12 = .ok (.getfield 9, 3) := by decide +kernel
theorem dX6_isOwed_15 : decode cX6_isOwed 15 = .ok (.bipush 6, 2) := by decide +kernel
theorem dX6_isOwed_17 : decode cX6_isOwed 17 = .ok (.iload_n 3, 1) := by decide +kernel
theorem dX6_isOwed_18 : decode cX6_isOwed 18 = .ok (.imul, 1) := by decide +kernel
theorem dX6_isOwed_19 : decode cX6_isOwed 19 = .ok (.iload_n 1, 1) := by decide +kernel
theorem dX6_isOwed_20 : decode cX6_isOwed 20 = .ok (.iadd, 1) := by decide +kernel
theorem dX6_isOwed_21 : decode cX6_isOwed 21 = .ok (.iaload, 1) := by decide +kernel
theorem dX6_isOwed_22 : decode cX6_isOwed 22 = .ok (.iadd, 1) := by decide +kernel
theorem dX6_isOwed_23 : decode cX6_isOwed 23 = .ok (.istore_n 2, 1) := by decide +kernel
theorem dX6_isOwed_24 : decode cX6_isOwed 24 = .ok (.iinc 3 1, 3) := by decide +kernel
theorem dX6_isOwed_27 : decode cX6_isOwed 27 = .ok (.goto (-23), 3) := by decide +kernel
theorem dX6_isOwed_30 : decode cX6_isOwed 30 = .ok (.iload_n 2, 1) := by decide +kernel
theorem dX6_isOwed_31 : decode cX6_isOwed 31 = .ok (.ireturn, 1) := by decide +kernel
theorem ok_yX6_isOwed : yOk yX6_isOwed 1 := ⟨by decide +kernel, by decide +kernel, by decide +kernel⟩
def fX6_isOwed_4 (n : Nat) (st : St) : Nat → Int32 → Int32 → Int32 → Option (Int32)
  | 0, _, _, _ => none
  | k + 1, v1, v2, v3 => if (6 : Int32) ≤ v3 then (some v2) else (gd (inB (((6 : Int32) * v3) + v1) 36) (bnd (v2 + (gI st 25 (((6 : Int32) * v3) + v1).toNatClampNeg)) (fun x3 => bnd (v3 + (1 : Int32)) (fun x5 => fX6_isOwed_4 n st k v1 x3 x5))))
set_option maxHeartbeats 4000000 in
theorem tX6_isOwed_4 {p : Program} {l : Launch} {e : Env} {s : State} {m : MethodId} {args : Array Value} {below : List Frame} {meth : Method} {c : Code} {X : WX} (C : Amb 65 X p s m args meth c cX6_isOwed 4 RX6) (hr : meth.sig.returnType = some .int) {R : Int32} {n : Nat} {st : St} : ∀ (k : Nat) (v1 : Int32) (v2 : Int32) (v3 : Int32) (H : Heap) (locs : List Loc) (ls : Array Slot), Wd EC 65 X s.heap st H locs → lv_has ls 4 [(0, .ref (xq X 24)), (1, .int v1), (2, .int v2), (3, .int v3)] → fX6_isOwed_4 n st k v1 v2 v3 = some R → W p l e { frames := 0, cells := 0, slots := 0, locals := 0 } s m args below meth c H locs 0 0 (QI EC 65 X R st below args s) (F0 m 4 ls []) := by
  obtain ⟨hx, hb, hml, hown, hts⟩ := id C.1
  intro k
  induction k with
  | zero => intro v1 v2 v3 H locs ls  hw hl hf; exact absurd (show none = some R from hf) (fun z => by cases z)
  | succ k ih =>
    intro v1 v2 v3 H locs ls  hw hl hf
    rw [fX6_isOwed_4] at hf
    refine lv_iload_n hx hb dX6_isOwed_4 rfl (lv_at hl 3 rfl) ?_
    refine lv_bipush (v := 6) hx hb dX6_isOwed_5 (by decide) ?_
    refine lv_icmp_ge (tgt := 30) hx hb dX6_isOwed_7 (by decide) (fun c1 => ?_) (fun c1 => ?_)
    · replace hf := ite_t hf c1
      refine lv_iload_n hx hb dX6_isOwed_30 rfl (lv_at hl 2 rfl) ?_
      exact w_iret C hw hr (Option.some.inj hf) rfl dX6_isOwed_31
    · replace hf := ite_f hf c1
      refine lv_iload_n hx hb dX6_isOwed_10 rfl (lv_at hl 2 rfl) ?_
      refine lv_aload_n hx hb dX6_isOwed_11 rfl (lv_at hl 0 rfl) ?_
      refine w_get (T := TX6) C hw (by decide) 0 kf_X6_9 (EC_24 X _ _) rfl inA6 (by decide) rfl dX6_isOwed_12 ?_
      refine lv_bipush (v := 6) hx hb dX6_isOwed_15 (by decide) ?_
      refine lv_iload_n hx hb dX6_isOwed_17 rfl (lv_at hl 3 rfl) ?_
      refine lv_imul hx hb dX6_isOwed_18 ?_
      refine lv_iload_n hx hb dX6_isOwed_19 rfl (lv_at hl 1 rfl) ?_
      refine lv_iadd hx hb dX6_isOwed_20 ?_
      obtain ⟨h2, hf⟩ := gd_some hf
      refine w_iald C hw (by decide) (EC_25 X _ _) h2 rfl dX6_isOwed_21 ?_
      refine lv_iadd hx hb dX6_isOwed_22 ?_
      refine lv_topi (fun x3 e4 => ?_)
      replace hf := bnd_nm hf e4
      refine lv_istore_n (lv' := [(2, .int x3), (0, .ref (xq X 24)), (1, .int v1), (3, .int v3)]) hx hb dX6_isOwed_23 rfl hl (by decide) rfl (fun ls hl => ?_)
      obtain ⟨x5, e6⟩ : ∃ z : Int32, z = v3 + (1 : Int32) := ⟨_, rfl⟩
      replace hf := bnd_nm hf e6
      refine lv_iinc (v := x5) (lv' := [(3, .int x5), (2, .int x3), (0, .ref (xq X 24)), (1, .int v1)]) hx hb dX6_isOwed_24 hl (k := 3) rfl (by rw [e6]; rfl) (by decide) rfl (fun ls hl => ?_)
      refine lv_goto (tgt := 4) hx hb dX6_isOwed_27 (by decide) ?_
      exact ih v1 x3 x5 _ _ _ hw (lv_sub hl [2, 3, 1, 0] rfl) hf
def fX6_isOwed (n : Nat) (st : St) (a1 : Int32) : Option (Int32) := fX6_isOwed_4 n st n a1 (0 : Int32) (0 : Int32)
set_option maxHeartbeats 4000000 in
theorem zX6_isOwed (l : Launch) (X : WX) (n : Nat) (st : St) (a1 : Int32) (R : Int32) (hf : fX6_isOwed n st a1 = some R) : CtI l yX6_isOwed cX6_isOwed 4 .int ({ frames := 0, cells := 0, slots := 0, locals := 0 }) EC 65 X [.ref (xq X 24), .int a1] st R st := by
  refine ct_in (own := RX6) (by decide +kernel) rfl (Nat.le_of_ble_eq_true rfl) (fun p e s m below meth c C hr hw ls hl => ?_)
  obtain ⟨hx, hb, hml, hown, hts⟩ := id C.1
  have hl : lv_has ls 4 [(0, .ref (xq X 24)), (1, .int a1)] := hl
  unfold fX6_isOwed at hf
  refine lv_iconst (v := 0) hx hb dX6_isOwed_0 (by decide) ?_
  refine lv_istore_n (lv' := [(2, .int (0 : Int32)), (0, .ref (xq X 24)), (1, .int a1)]) hx hb dX6_isOwed_1 rfl hl (by decide) rfl (fun ls hl => ?_)
  refine lv_iconst (v := 0) hx hb dX6_isOwed_2 (by decide) ?_
  refine lv_istore_n (lv' := [(3, .int (0 : Int32)), (2, .int (0 : Int32)), (0, .ref (xq X 24)), (1, .int a1)]) hx hb dX6_isOwed_3 rfl hl (by decide) rfl (fun ls hl => ?_)
  exact tX6_isOwed_4 C hr n a1 (0 : Int32) (0 : Int32) _ _ _ hw (lv_sub hl [2, 3, 1, 0] rfl) hf
theorem dX6_weighAll_0 : decode cX6_weighAll 0 = .ok (.iconst 0, 1) := by decide +kernel
theorem dX6_weighAll_1 : decode cX6_weighAll 1 = .ok (.istore_n 1, 1) := by decide +kernel
theorem dX6_weighAll_2 : decode cX6_weighAll 2 = .ok (.iload_n 1, 1) := by decide +kernel
theorem dX6_weighAll_3 : decode cX6_weighAll 3 = .ok (.aload_n 0, 1) := by decide +kernel
theorem dX6_weighAll_4 : decode cX6_weighAll 4 = .ok (.getfield 20, 3) := by decide +kernel
theorem dX6_weighAll_7 : decode cX6_weighAll 7 = .ok (.getfield 77, 3) := by decide +kernel
theorem dX6_weighAll_10 : decode cX6_weighAll 10 = .ok (.if_icmp .ge 40, 3) := by decide +kernel
theorem dX6_weighAll_13 : decode cX6_weighAll 13 = .ok (.aload_n 0, 1) := by decide +kernel
theorem dX6_weighAll_14 : decode cX6_weighAll 14 = .ok (.iload_n 1, 1) := by decide +kernel
theorem dX6_weighAll_15 : decode cX6_weighAll 15 = .ok (.aload_n 0, 1) := by decide +kernel
theorem dX6_weighAll_16 : decode cX6_weighAll 16 = .ok (.getfield 20, 3) := by decide +kernel
theorem dX6_weighAll_19 : decode cX6_weighAll 19 = .ok (.aload_n 0, 1) := by decide +kernel
theorem dX6_weighAll_20 : decode cX6_weighAll 20 = .ok (.getfield 20, 3) := by decide +kernel
theorem dX6_weighAll_23 : decode cX6_weighAll 23 = .ok (.iload_n 1, 1) := by decide +kernel
theorem dX6_weighAll_24 : decode cX6_weighAll 24 = .ok (.invokevirtual 28, 3) := by decide +kernel
theorem dX6_weighAll_27 : decode cX6_weighAll 27 = .ok (.invokevirtual 32, 3) := by decide +kernel
theorem dX6_weighAll_30 : decode cX6_weighAll 30 = .ok (.iconst (-1), 1) := by decide +kernel
theorem dX6_weighAll_31 : decode cX6_weighAll 31 = .ok (.invokevirtual 67, 3) := by decide +kernel
theorem dX6_weighAll_34 : decode cX6_weighAll 34 = .ok (.aload_n 0, 1) := by decide +kernel
theorem dX6_weighAll_35 : decode cX6_weighAll 35 = .ok (.getfield 17, 3) := by decide +kernel
theorem dX6_weighAll_38 : decode cX6_weighAll 38 = .ok (.iload_n 1, 1) := by decide +kernel
theorem dX6_weighAll_39 : decode cX6_weighAll 39 = .ok (.aload_n 0, 1) := by decide +kernel
theorem dX6_weighAll_40 : decode cX6_weighAll 40 = .ok (.getfield 58, 3) := by decide +kernel
theorem dX6_weighAll_43 : decode cX6_weighAll 43 = .ok (.iastore, 1) := by decide +kernel
theorem dX6_weighAll_44 : decode cX6_weighAll 44 = .ok (.iinc 1 1, 3) := by decide +kernel
theorem dX6_weighAll_47 : decode cX6_weighAll 47 = .ok (.goto (-45), 3) := by decide +kernel
theorem dX6_weighAll_50 : decode cX6_weighAll 50 = .ok (.return_, 1) := by decide +kernel
theorem ok_yX6_weighAll : yOk yX6_weighAll 0 := ⟨by decide +kernel, by decide +kernel, by decide +kernel⟩
def fX6_weighAll_2 (n : Nat) : Nat → St → Int32 → Option (St)
  | 0, _, _ => none
  | k + 1, st, v1 => if gI st 1 2 ≤ v1 then (some st) else ((fX3_fieldUnder n st v1).bind (fun r2 => (fX3_ownerOf st r2).bind (fun r4 => (fX6_weigh n st v1 r4 (-1 : Int32)).bind (fun r6 => gd (inB v1 10) (bnd (sI r6 26 v1.toNatClampNeg (gI r6 24 2)) (fun st9 => bnd (v1 + (1 : Int32)) (fun x11 => fX6_weighAll_2 n k st9 x11)))))))
set_option maxHeartbeats 4000000 in
theorem tX6_weighAll_2 {p : Program} {l : Launch} {e : Env} {s : State} {m : MethodId} {args : Array Value} {below : List Frame} {meth : Method} {c : Code} {X : WX} (C : Amb 65 X p s m args meth c cX6_weighAll 2 RX6) (hr : meth.sig.returnType = none) {R : St} {n : Nat} : ∀ (k : Nat) (st : St) (v1 : Int32) (H : Heap) (locs : List Loc) (ls : Array Slot), Wd EC 65 X s.heap st H locs → lv_has ls 2 [(0, .ref (xq X 24)), (1, .int v1)] → fX6_weighAll_2 n k st v1 = some R → W p l e { frames := 4, cells := 0, slots := 0, locals := 103 } s m args below meth c H locs 0 0 (QV EC 65 X R below args s) (F0 m 2 ls []) := by
  obtain ⟨hx, hb, hml, hown, hts⟩ := id C.1
  intro k
  induction k with
  | zero => intro st v1 H locs ls  hw hl hf; exact absurd (show none = some R from hf) (fun z => by cases z)
  | succ k ih =>
    intro st v1 H locs ls  hw hl hf
    rw [fX6_weighAll_2] at hf
    refine lv_iload_n hx hb dX6_weighAll_2 rfl (lv_at hl 1 rfl) ?_
    refine lv_aload_n hx hb dX6_weighAll_3 rfl (lv_at hl 0 rfl) ?_
    refine w_get (T := TX6) C hw (by decide) 4 kf_X6_20 (EC_24 X _ _) rfl inA6 (by decide) rfl dX6_weighAll_4 ?_
    refine w_get (T := TX3) C hw (by decide) 2 kf_X6_77 (EC_1 X _ _) rfl inA3 (by decide) rfl dX6_weighAll_7 ?_
    refine lv_icmp_ge (tgt := 50) hx hb dX6_weighAll_10 (by decide) (fun c1 => ?_) (fun c1 => ?_)
    · replace hf := ite_t hf c1
      exact w_vret C hw hr (Option.some.inj hf) dX6_weighAll_50
    · replace hf := ite_f hf c1
      refine lv_aload_n hx hb dX6_weighAll_13 rfl (lv_at hl 0 rfl) ?_
      refine lv_iload_n hx hb dX6_weighAll_14 rfl (lv_at hl 1 rfl) ?_
      refine lv_aload_n hx hb dX6_weighAll_15 rfl (lv_at hl 0 rfl) ?_
      refine w_get (T := TX6) C hw (by decide) 4 kf_X6_20 (EC_24 X _ _) rfl inA6 (by decide) rfl dX6_weighAll_16 ?_
      refine lv_aload_n hx hb dX6_weighAll_19 rfl (lv_at hl 0 rfl) ?_
      refine w_get (T := TX6) C hw (by decide) 4 kf_X6_20 (EC_24 X _ _) rfl inA6 (by decide) rfl dX6_weighAll_20 ?_
      refine lv_iload_n hx hb dX6_weighAll_23 rfl (lv_at hl 1 rfl) ?_
      obtain ⟨r2, k3, hf⟩ := bd_some hf
      refine w_goI hw (w_runV (rest := [.ref (xq X 1), .int v1, .ref (xq X 24)]) C hw (zX3_fieldUnder _ _ n st v1 r2 k3) (by decide) (EC_1 X _ _) rfl km_X6_28 ki_yX3_fieldUnder kv_X3_fieldUnder kz_X3 kc_X3_fieldUnder rfl ok_yX3_fieldUnder ⟨Nat.le_of_ble_eq_true rfl, Nat.le_of_ble_eq_true rfl⟩ rfl rfl rfl rfl hl.1 (Nat.le_of_ble_eq_true rfl) dX6_weighAll_24 ⟨Nat.zero_le _, Nat.zero_le _⟩) (fun H locs hw => ?_)
      obtain ⟨r4, k5, hf⟩ := bd_some hf
      refine w_goI hw (w_runV (rest := [.int v1, .ref (xq X 24)]) C hw (zX3_ownerOf _ _ st r2 r4 k5) (by decide) (EC_1 X _ _) rfl km_X6_32 ki_yX3_ownerOf kv_X3_ownerOf kz_X3 kc_X3_ownerOf rfl ok_yX3_ownerOf ⟨Nat.le_of_ble_eq_true rfl, Nat.le_of_ble_eq_true rfl⟩ rfl rfl rfl rfl hl.1 (Nat.le_of_ble_eq_true rfl) dX6_weighAll_27 ⟨Nat.zero_le _, Nat.zero_le _⟩) (fun H locs hw => ?_)
      refine lv_iconst (v := -1) hx hb dX6_weighAll_30 (by decide) ?_
      obtain ⟨r6, k7, hf⟩ := bd_some hf
      refine w_goV hw (w_runV (rest := []) C hw (zX6_weigh _ _ n st v1 r4 (-1 : Int32) r6 k7) (by decide) (EC_24 X _ _) rfl km_X6_67 ki_yX6_weigh kv_X6_weigh kz_X6 kc_X6_weigh rfl ok_yX6_weigh ⟨Nat.le_of_ble_eq_true rfl, Nat.le_of_ble_eq_true rfl⟩ rfl rfl rfl rfl hl.1 (Nat.le_of_ble_eq_true rfl) dX6_weighAll_31 ⟨Nat.zero_le _, Nat.zero_le _⟩) (fun H locs hw => ?_)
      refine lv_aload_n hx hb dX6_weighAll_34 rfl (lv_at hl 0 rfl) ?_
      refine w_get (T := TX6) C hw (by decide) 6 kf_X6_17 (EC_24 X _ _) rfl inA6 (by decide) rfl dX6_weighAll_35 ?_
      refine lv_iload_n hx hb dX6_weighAll_38 rfl (lv_at hl 1 rfl) ?_
      refine lv_aload_n hx hb dX6_weighAll_39 rfl (lv_at hl 0 rfl) ?_
      refine w_get (T := TX6) C hw (by decide) 2 kf_X6_58 (EC_24 X _ _) rfl inA6 (by decide) rfl dX6_weighAll_40 ?_
      obtain ⟨h8, hf⟩ := gd_some hf
      obtain ⟨st9, es10⟩ : ∃ z : St, z = sI r6 26 v1.toNatClampNeg (gI r6 24 2) := ⟨_, rfl⟩
      replace hf := bnd_nm hf es10
      refine w_iast C hw (by decide) (fun f9 => EC_26 X f9 _) h8 rfl dX6_weighAll_43 (fun H locs hw => ?_)
      rw [← es10] at hw
      obtain ⟨x11, e12⟩ : ∃ z : Int32, z = v1 + (1 : Int32) := ⟨_, rfl⟩
      replace hf := bnd_nm hf e12
      refine lv_iinc (v := x11) (lv' := [(1, .int x11), (0, .ref (xq X 24))]) hx hb dX6_weighAll_44 hl (k := 1) rfl (by rw [e12]; rfl) (by decide) rfl (fun ls hl => ?_)
      refine lv_goto (tgt := 2) hx hb dX6_weighAll_47 (by decide) ?_
      exact ih st9 x11 _ _ _ hw (lv_sub hl [1, 0] rfl) hf
def fX6_weighAll (n : Nat) (st : St) : Option (St) := fX6_weighAll_2 n n st (0 : Int32)
set_option maxHeartbeats 4000000 in
theorem zX6_weighAll (l : Launch) (X : WX) (n : Nat) (st : St)  (R : St) (hf : fX6_weighAll n st = some R) : CtV l yX6_weighAll cX6_weighAll 2 ({ frames := 4, cells := 0, slots := 0, locals := 103 }) EC 65 X [.ref (xq X 24)] st R := by
  refine ct_in (own := RX6) (by decide +kernel) rfl (Nat.le_of_ble_eq_true rfl) (fun p e s m below meth c C hr hw ls hl => ?_)
  obtain ⟨hx, hb, hml, hown, hts⟩ := id C.1
  have hl : lv_has ls 2 [(0, .ref (xq X 24))] := hl
  unfold fX6_weighAll at hf
  refine lv_iconst (v := 0) hx hb dX6_weighAll_0 (by decide) ?_
  refine lv_istore_n (lv' := [(1, .int (0 : Int32)), (0, .ref (xq X 24))]) hx hb dX6_weighAll_1 rfl hl (by decide) rfl (fun ls hl => ?_)
  exact tX6_weighAll_2 C hr n st (0 : Int32) _ _ _ hw (lv_sub hl [1, 0] rfl) hf
theorem dX6_fallsHadBy_0 : decode cX6_fallsHadBy 0 = .ok (.iconst 0, 1) := by decide +kernel
theorem dX6_fallsHadBy_1 : decode cX6_fallsHadBy 1 = .ok (.istore_n 2, 1) := by decide +kernel
theorem dX6_fallsHadBy_2 : decode cX6_fallsHadBy 2 = .ok (.iconst 0, 1) := by decide +kernel
theorem dX6_fallsHadBy_3 : decode cX6_fallsHadBy 3 = .ok (.istore_n 3, 1) := by decide +kernel
theorem dX6_fallsHadBy_4 : decode cX6_fallsHadBy 4 = .ok (.iload_n 3, 1) := by decide +kernel
theorem dX6_fallsHadBy_5 : decode cX6_fallsHadBy 5 = .ok (.aload_n 0, 1) := by decide +kernel
theorem dX6_fallsHadBy_6 : decode cX6_fallsHadBy 6 = .ok (.getfield 20, 3) := by decide +kernel
theorem dX6_fallsHadBy_9 : decode cX6_fallsHadBy 9 = .ok (.getfield 77, 3) := by decide +kernel
theorem dX6_fallsHadBy_12 : decode cX6_fallsHadBy 12 = .ok (.if_icmp .ge 24, 3) := by decide +kernel
theorem dX6_fallsHadBy_15 : decode cX6_fallsHadBy 15 = .ok (.aload_n 0, 1) := by decide +kernel
theorem dX6_fallsHadBy_16 : decode cX6_fallsHadBy 16 = .ok (.getfield 17, 3) := by decide +kernel
theorem dX6_fallsHadBy_19 : decode cX6_fallsHadBy 19 = .ok (.iload_n 3, 1) := by decide +kernel
theorem dX6_fallsHadBy_20 : decode cX6_fallsHadBy 20 = .ok (.iaload, 1) := by decide +kernel
theorem dX6_fallsHadBy_21 : decode cX6_fallsHadBy 21 = .ok (.iload_n 1, 1) := by decide +kernel
theorem dX6_fallsHadBy_22 : decode cX6_fallsHadBy 22 = .ok (.iand, 1) := by decide +kernel
theorem dX6_fallsHadBy_23 : decode cX6_fallsHadBy 23 = .ok (.iload_n 1, 1) := by decide +kernel
theorem dX6_fallsHadBy_24 : decode cX6_fallsHadBy 24 = .ok (.if_icmp .ne 6, 3) := by decide +kernel
theorem dX6_fallsHadBy_27 : decode cX6_fallsHadBy 27 = .ok (.iinc 2 1, 3) := by decide +kernel
theorem dX6_fallsHadBy_30 : decode cX6_fallsHadBy 30 = .ok (.iinc 3 1, 3) := by decide +kernel
theorem dX6_fallsHadBy_33 : decode cX6_fallsHadBy 33 = .ok (.goto (-29), 3) := by decide +kernel
theorem dX6_fallsHadBy_36 : decode cX6_fallsHadBy 36 = .ok (.iload_n 2, 1) := by decide +kernel
theorem dX6_fallsHadBy_37 : decode cX6_fallsHadBy 37 = .ok (.ireturn, 1) := by decide +kernel
theorem ok_yX6_fallsHadBy : yOk yX6_fallsHadBy 1 := ⟨by decide +kernel, by decide +kernel, by decide +kernel⟩
def fX6_fallsHadBy_4 (n : Nat) (st : St) : Nat → Int32 → Int32 → Int32 → Option (Int32)
  | 0, _, _, _ => none
  | k + 1, v1, v2, v3 => if gI st 1 2 ≤ v3 then (some v2) else (gd (inB v3 10) (if (gI st 26 v3.toNatClampNeg) &&& v1 = v1 then (bnd (v2 + (1 : Int32)) (fun x6 => bnd (v3 + (1 : Int32)) (fun x8 => fX6_fallsHadBy_4 n st k v1 x6 x8))) else (bnd (v3 + (1 : Int32)) (fun x4 => fX6_fallsHadBy_4 n st k v1 v2 x4))))
set_option maxHeartbeats 4000000 in
theorem tX6_fallsHadBy_4 {p : Program} {l : Launch} {e : Env} {s : State} {m : MethodId} {args : Array Value} {below : List Frame} {meth : Method} {c : Code} {X : WX} (C : Amb 65 X p s m args meth c cX6_fallsHadBy 4 RX6) (hr : meth.sig.returnType = some .int) {R : Int32} {n : Nat} {st : St} : ∀ (k : Nat) (v1 : Int32) (v2 : Int32) (v3 : Int32) (H : Heap) (locs : List Loc) (ls : Array Slot), Wd EC 65 X s.heap st H locs → lv_has ls 4 [(0, .ref (xq X 24)), (1, .int v1), (2, .int v2), (3, .int v3)] → fX6_fallsHadBy_4 n st k v1 v2 v3 = some R → W p l e { frames := 0, cells := 0, slots := 0, locals := 0 } s m args below meth c H locs 0 0 (QI EC 65 X R st below args s) (F0 m 4 ls []) := by
  obtain ⟨hx, hb, hml, hown, hts⟩ := id C.1
  intro k
  induction k with
  | zero => intro v1 v2 v3 H locs ls  hw hl hf; exact absurd (show none = some R from hf) (fun z => by cases z)
  | succ k ih =>
    intro v1 v2 v3 H locs ls  hw hl hf
    rw [fX6_fallsHadBy_4] at hf
    refine lv_iload_n hx hb dX6_fallsHadBy_4 rfl (lv_at hl 3 rfl) ?_
    refine lv_aload_n hx hb dX6_fallsHadBy_5 rfl (lv_at hl 0 rfl) ?_
    refine w_get (T := TX6) C hw (by decide) 4 kf_X6_20 (EC_24 X _ _) rfl inA6 (by decide) rfl dX6_fallsHadBy_6 ?_
    refine w_get (T := TX3) C hw (by decide) 2 kf_X6_77 (EC_1 X _ _) rfl inA3 (by decide) rfl dX6_fallsHadBy_9 ?_
    refine lv_icmp_ge (tgt := 36) hx hb dX6_fallsHadBy_12 (by decide) (fun c1 => ?_) (fun c1 => ?_)
    · replace hf := ite_t hf c1
      refine lv_iload_n hx hb dX6_fallsHadBy_36 rfl (lv_at hl 2 rfl) ?_
      exact w_iret C hw hr (Option.some.inj hf) rfl dX6_fallsHadBy_37
    · replace hf := ite_f hf c1
      refine lv_aload_n hx hb dX6_fallsHadBy_15 rfl (lv_at hl 0 rfl) ?_
      refine w_get (T := TX6) C hw (by decide) 6 kf_X6_17 (EC_24 X _ _) rfl inA6 (by decide) rfl dX6_fallsHadBy_16 ?_
      refine lv_iload_n hx hb dX6_fallsHadBy_19 rfl (lv_at hl 3 rfl) ?_
      obtain ⟨h2, hf⟩ := gd_some hf
      refine w_iald C hw (by decide) (EC_26 X _ _) h2 rfl dX6_fallsHadBy_20 ?_
      refine lv_iload_n hx hb dX6_fallsHadBy_21 rfl (lv_at hl 1 rfl) ?_
      refine lv_iand hx hb dX6_fallsHadBy_22 ?_
      refine lv_iload_n hx hb dX6_fallsHadBy_23 rfl (lv_at hl 1 rfl) ?_
      refine lv_icmp_ne (tgt := 30) hx hb dX6_fallsHadBy_24 (by decide) (fun c3 => ?_) (fun c3 => ?_)
      · replace hf := ite_f hf c3
        obtain ⟨x4, e5⟩ : ∃ z : Int32, z = v3 + (1 : Int32) := ⟨_, rfl⟩
        replace hf := bnd_nm hf e5
        refine lv_iinc (v := x4) (lv' := [(3, .int x4), (0, .ref (xq X 24)), (1, .int v1), (2, .int v2)]) hx hb dX6_fallsHadBy_30 hl (k := 3) rfl (by rw [e5]; rfl) (by decide) rfl (fun ls hl => ?_)
        refine lv_goto (tgt := 4) hx hb dX6_fallsHadBy_33 (by decide) ?_
        exact ih v1 v2 x4 _ _ _ hw (lv_sub hl [1, 2, 3, 0] rfl) hf
      · replace hf := ite_t hf c3
        obtain ⟨x6, e7⟩ : ∃ z : Int32, z = v2 + (1 : Int32) := ⟨_, rfl⟩
        replace hf := bnd_nm hf e7
        refine lv_iinc (v := x6) (lv' := [(2, .int x6), (0, .ref (xq X 24)), (1, .int v1), (3, .int v3)]) hx hb dX6_fallsHadBy_27 hl (k := 2) rfl (by rw [e7]; rfl) (by decide) rfl (fun ls hl => ?_)
        obtain ⟨x8, e9⟩ : ∃ z : Int32, z = v3 + (1 : Int32) := ⟨_, rfl⟩
        replace hf := bnd_nm hf e9
        refine lv_iinc (v := x8) (lv' := [(3, .int x8), (2, .int x6), (0, .ref (xq X 24)), (1, .int v1)]) hx hb dX6_fallsHadBy_30 hl (k := 3) rfl (by rw [e9]; rfl) (by decide) rfl (fun ls hl => ?_)
        refine lv_goto (tgt := 4) hx hb dX6_fallsHadBy_33 (by decide) ?_
        exact ih v1 x6 x8 _ _ _ hw (lv_sub hl [2, 3, 1, 0] rfl) hf
def fX6_fallsHadBy (n : Nat) (st : St) (a1 : Int32) : Option (Int32) := fX6_fallsHadBy_4 n st n a1 (0 : Int32) (0 : Int32)
set_option maxHeartbeats 4000000 in
theorem zX6_fallsHadBy (l : Launch) (X : WX) (n : Nat) (st : St) (a1 : Int32) (R : Int32) (hf : fX6_fallsHadBy n st a1 = some R) : CtI l yX6_fallsHadBy cX6_fallsHadBy 4 .int ({ frames := 0, cells := 0, slots := 0, locals := 0 }) EC 65 X [.ref (xq X 24), .int a1] st R st := by
  refine ct_in (own := RX6) (by decide +kernel) rfl (Nat.le_of_ble_eq_true rfl) (fun p e s m below meth c C hr hw ls hl => ?_)
  obtain ⟨hx, hb, hml, hown, hts⟩ := id C.1
  have hl : lv_has ls 4 [(0, .ref (xq X 24)), (1, .int a1)] := hl
  unfold fX6_fallsHadBy at hf
  refine lv_iconst (v := 0) hx hb dX6_fallsHadBy_0 (by decide) ?_
  refine lv_istore_n (lv' := [(2, .int (0 : Int32)), (0, .ref (xq X 24)), (1, .int a1)]) hx hb dX6_fallsHadBy_1 rfl hl (by decide) rfl (fun ls hl => ?_)
  refine lv_iconst (v := 0) hx hb dX6_fallsHadBy_2 (by decide) ?_
  refine lv_istore_n (lv' := [(3, .int (0 : Int32)), (2, .int (0 : Int32)), (0, .ref (xq X 24)), (1, .int a1)]) hx hb dX6_fallsHadBy_3 rfl hl (by decide) rfl (fun ls hl => ?_)
  exact tX6_fallsHadBy_4 C hr n a1 (0 : Int32) (0 : Int32) _ _ _ hw (lv_sub hl [2, 3, 1, 0] rfl) hf
theorem dX6_quarrel_0 : decode cX6_quarrel 0 = .ok (.aload_n 0, 1) := by decide +kernel
theorem dX6_quarrel_1 : decode cX6_quarrel 1 = .ok (.invokevirtual 108, 3) := by decide +kernel
theorem dX6_quarrel_4 : decode cX6_quarrel 4 = .ok (.iconst 0, 1) := by decide +kernel
theorem dX6_quarrel_5 : decode cX6_quarrel 5 = .ok (.istore_n 1, 1) := by decide +kernel
theorem dX6_quarrel_6 : decode cX6_quarrel 6 = .ok (.iload_n 1, 1) := by decide +kernel
theorem dX6_quarrel_7 : decode cX6_quarrel 7 = .ok (.aload_n 0, 1) := by decide +kernel
theorem dX6_quarrel_8 : decode cX6_quarrel 8 = .ok (.getfield 20, 3) := by decide +kernel
theorem dX6_quarrel_11 : decode cX6_quarrel 11 = .ok (.getfield 64, 3) := by decide +kernel
theorem dX6_quarrel_14 : decode cX6_quarrel 14 = .ok (.if_icmp .ge 88, 3) := by decide +kernel
theorem dX6_quarrel_17 : decode cX6_quarrel 17 = .ok (.iload_n 1, 1) := by decide +kernel
theorem dX6_quarrel_18 : decode cX6_quarrel 18 = .ok (.iconst 1, 1) := by decide +kernel
theorem dX6_quarrel_19 : decode cX6_quarrel 19 = .ok (.iadd, 1) := by decide +kernel
theorem dX6_quarrel_20 : decode cX6_quarrel 20 = .ok (.istore_n 2, 1) := by decide +kernel
theorem dX6_quarrel_21 : decode cX6_quarrel 21 = .ok (.iload_n 2, 1) := by decide +kernel
theorem dX6_quarrel_22 : decode cX6_quarrel 22 = .ok (.aload_n 0, 1) := by decide +kernel
theorem dX6_quarrel_23 : decode cX6_quarrel 23 = .ok (.getfield 20, 3) := by decide +kernel
theorem dX6_quarrel_26 : decode cX6_quarrel 26 = .ok (.getfield 64, 3) := by decide +kernel
theorem dX6_quarrel_29 : decode cX6_quarrel 29 = .ok (.if_icmp .ge 67, 3) := by decide +kernel
theorem dX6_quarrel_32 : decode cX6_quarrel 32 = .ok (.aload_n 0, 1) := by decide +kernel
theorem dX6_quarrel_33 : decode cX6_quarrel 33 = .ok (.getfield 20, 3) := by decide +kernel
theorem dX6_quarrel_36 : decode cX6_quarrel 36 = .ok (.getfield 39, 3) := by decide +kernel
theorem dX6_quarrel_39 : decode cX6_quarrel 39 = .ok (.bipush 10, 2) := by decide +kernel
theorem dX6_quarrel_41 : decode cX6_quarrel 41 = .ok (.aaload, 1) := by decide +kernel
theorem dX6_quarrel_42 : decode cX6_quarrel 42 = .ok (.iload_n 1, 1) := by decide +kernel
theorem dX6_quarrel_43 : decode cX6_quarrel 43 = .ok (.iaload, 1) := by decide +kernel
theorem dX6_quarrel_44 : decode cX6_quarrel 44 = .ok (.aload_n 0, 1) := by decide +kernel
theorem dX6_quarrel_45 : decode cX6_quarrel 45 = .ok (.getfield 20, 3) := by decide +kernel
theorem dX6_quarrel_48 : decode cX6_quarrel 48 = .ok (.getfield 39, 3) := by decide +kernel
theorem dX6_quarrel_51 : decode cX6_quarrel 51 = .ok (.bipush 10, 2) := by decide +kernel
theorem dX6_quarrel_53 : decode cX6_quarrel 53 = .ok (.aaload, 1) := by decide +kernel
theorem dX6_quarrel_54 : decode cX6_quarrel 54 = .ok (.iload_n 2, 1) := by decide +kernel
theorem dX6_quarrel_55 : decode cX6_quarrel 55 = .ok (.iaload, 1) := by decide +kernel
theorem dX6_quarrel_56 : decode cX6_quarrel 56 = .ok (.if_icmp .eq 7, 3) := by decide +kernel
theorem dX6_quarrel_59 : decode cX6_quarrel 59 = .ok (.iconst 1, 1) := by decide +kernel
theorem dX6_quarrel_60 : decode cX6_quarrel 60 = .ok (.goto 4, 3) := by decide +kernel
theorem dX6_quarrel_63 : decode cX6_quarrel 63 = .ok (.iconst 0, 1) := by decide +kernel
theorem dX6_quarrel_64 : decode cX6_quarrel 64 = .ok (.istore_n 3, 1) := by decide +kernel
theorem dX6_quarrel_65 : decode cX6_quarrel 65 = .ok (.iload_n 3, 1) := by decide +kernel
theorem dX6_quarrel_66 : decode cX6_quarrel 66 = .ok (.ifCond .eq 24, 3) := by decide +kernel
theorem dX6_quarrel_69 : decode cX6_quarrel 69 = .ok (.aload_n 0, 1) := by decide +kernel
theorem dX6_quarrel_70 : decode cX6_quarrel 70 = .ok (.iconst 1, 1) := by decide +kernel
theorem dX6_quarrel_71 : decode cX6_quarrel 71 = .ok (.iload_n 1, 1) := by decide +kernel
theorem dX6_quarrel_72 : decode cX6_quarrel 72 = .ok (.ishl, 1) := by decide +kernel
theorem dX6_quarrel_73 : decode cX6_quarrel 73 = .ok (.iconst 1, 1) := by decide +kernel
theorem dX6_quarrel_74 : decode cX6_quarrel 74 = .ok (.iload_n 2, 1) := by decide +kernel
theorem dX6_quarrel_75 : decode cX6_quarrel 75 = .ok (.ishl, 1) := by decide +kernel
theorem dX6_quarrel_76 : decode cX6_quarrel 76 = .ok (.ior, 1) := by decide +kernel
theorem dX6_quarrel_77 : decode cX6_quarrel 77 = .ok (.invokevirtual 111, 3) := by decide +kernel
theorem dX6_quarrel_80 : decode cX6_quarrel 80 = .ok (.ifCond .le 10, 3) := by decide +kernel
theorem dX6_quarrel_83 : decode cX6_quarrel 83 = .ok (.bipush 100, 2) := by decide +kernel
theorem dX6_quarrel_85 : decode cX6_quarrel 85 = .ok (.iload_n 1, 1) := by decide +kernel
theorem dX6_quarrel_86 : decode cX6_quarrel 86 = .ok (.imul, 1) := by decide +kernel
theorem dX6_quarrel_87 : decode cX6_quarrel 87 = .ok (.iload_n 2, 1) := by decide +kernel
theorem dX6_quarrel_88 : decode cX6_quarrel 88 = .ok (.iadd, 1) := by decide +kernel
theorem dX6_quarrel_89 : decode cX6_quarrel 89 = .ok (.ireturn, 1) := by decide +kernel
theorem dX6_quarrel_90 : decode cX6_quarrel 90 = .ok (.iinc 2 1, 3) := by decide +kernel
theorem dX6_quarrel_93 : decode cX6_quarrel 93 = .ok (.goto (-72), 3) := by decide +kernel
theorem dX6_quarrel_96 : decode cX6_quarrel 96 = .ok (.iinc 1 1, 3) := by decide +kernel
theorem dX6_quarrel_99 : decode cX6_quarrel 99 = .ok (.goto (-93), 3) := by decide +kernel
theorem dX6_quarrel_102 : decode cX6_quarrel 102 = .ok (.bipush (-2), 2) := by decide +kernel
theorem dX6_quarrel_104 : decode cX6_quarrel 104 = .ok (.ireturn, 1) := by decide +kernel
theorem ok_yX6_quarrel : yOk yX6_quarrel 0 := ⟨by decide +kernel, by decide +kernel, by decide +kernel⟩
def fX6_quarrel_64 (kB6 : St → Int32 → Option (Int32 × St)) (kB21 : St → Int32 → Int32 → Option (Int32 × St)) (n : Nat) (st : St) (v1 : Int32) (v2 : Int32) (w0 : Int32) : Option (Int32 × St) := if w0 = 0 then (bnd (v2 + (1 : Int32)) (fun x13 => kB21 st v1 x13)) else ((fX6_fallsHadBy n st (((1 : Int32) <<< (v1 &&& 31)) ||| ((1 : Int32) <<< (v2 &&& 31)))).bind (fun r15 => if r15 ≤ 0 then (bnd (v2 + (1 : Int32)) (fun x18 => kB21 st v1 x18)) else (some ((((100 : Int32) * v1) + v2), st))))
set_option maxHeartbeats 4000000 in
theorem tX6_quarrel_64 {p : Program} {l : Launch} {e : Env} {s : State} {m : MethodId} {args : Array Value} {below : List Frame} {meth : Method} {c : Code} {X : WX} (C : Amb 65 X p s m args meth c cX6_quarrel 4 RX6) (hr : meth.sig.returnType = some .int) {R : Int32 × St} {n : Nat} {kB6 : St → Int32 → Option (Int32 × St)} {kB21 : St → Int32 → Int32 → Option (Int32 × St)} (hB6 : ∀ (st : St) (v1 : Int32) (H : Heap) (locs : List Loc) (ls : Array Slot), Wd EC 65 X s.heap st H locs → lv_has ls 4 [(0, .ref (xq X 24)), (1, .int v1)] → kB6 st v1 = some R → W p l e { frames := 5, cells := 0, slots := 0, locals := 124 } s m args below meth c H locs 0 0 (QI EC 65 X R.1 R.2 below args s) (F0 m 6 ls [])) (hB21 : ∀ (st : St) (v1 : Int32) (v2 : Int32) (H : Heap) (locs : List Loc) (ls : Array Slot), Wd EC 65 X s.heap st H locs → lv_has ls 4 [(0, .ref (xq X 24)), (1, .int v1), (2, .int v2)] → kB21 st v1 v2 = some R → W p l e { frames := 5, cells := 0, slots := 0, locals := 124 } s m args below meth c H locs 0 0 (QI EC 65 X R.1 R.2 below args s) (F0 m 21 ls [])) : ∀ (st : St) (v1 : Int32) (v2 : Int32) (w0 : Int32) (H : Heap) (locs : List Loc) (ls : Array Slot), Wd EC 65 X s.heap st H locs → lv_has ls 4 [(0, .ref (xq X 24)), (1, .int v1), (2, .int v2)] → fX6_quarrel_64 kB6 kB21 n st v1 v2 w0 = some R → W p l e { frames := 5, cells := 0, slots := 0, locals := 124 } s m args below meth c H locs 0 0 (QI EC 65 X R.1 R.2 below args s) (F0 m 64 ls [.int w0]) := by
  obtain ⟨hx, hb, hml, hown, hts⟩ := id C.1
  intro st v1 v2 w0 H locs ls  hw hl hf
  unfold fX6_quarrel_64 at hf
  refine lv_istore_n (lv' := [(3, .int w0), (0, .ref (xq X 24)), (1, .int v1), (2, .int v2)]) hx hb dX6_quarrel_64 rfl hl (by decide) rfl (fun ls hl => ?_)
  refine lv_iload_n hx hb dX6_quarrel_65 rfl (lv_at hl 0 rfl) ?_
  refine lv_if_eq (tgt := 90) hx hb dX6_quarrel_66 (by decide) (fun c12 => ?_) (fun c12 => ?_)
  · replace hf := ite_t hf c12
    obtain ⟨x13, e14⟩ : ∃ z : Int32, z = v2 + (1 : Int32) := ⟨_, rfl⟩
    replace hf := bnd_nm hf e14
    refine lv_iinc (v := x13) (lv' := [(2, .int x13), (3, .int w0), (0, .ref (xq X 24)), (1, .int v1)]) hx hb dX6_quarrel_90 hl (k := 3) rfl (by rw [e14]; rfl) (by decide) rfl (fun ls hl => ?_)
    refine lv_goto (tgt := 21) hx hb dX6_quarrel_93 (by decide) ?_
    exact hB21 st v1 x13 _ _ _ hw (lv_sub hl [2, 3, 0] rfl) hf
  · replace hf := ite_f hf c12
    refine lv_aload_n hx hb dX6_quarrel_69 rfl (lv_at hl 1 rfl) ?_
    refine lv_iconst (v := 1) hx hb dX6_quarrel_70 (by decide) ?_
    refine lv_iload_n hx hb dX6_quarrel_71 rfl (lv_at hl 2 rfl) ?_
    refine lv_ishl hx hb dX6_quarrel_72 ?_
    refine lv_iconst (v := 1) hx hb dX6_quarrel_73 (by decide) ?_
    refine lv_iload_n hx hb dX6_quarrel_74 rfl (lv_at hl 3 rfl) ?_
    refine lv_ishl hx hb dX6_quarrel_75 ?_
    refine lv_ior hx hb dX6_quarrel_76 ?_
    obtain ⟨r15, k16, hf⟩ := bd_some hf
    refine w_goI hw (w_runV (rest := []) C hw (zX6_fallsHadBy _ _ n st (((1 : Int32) <<< (v1 &&& 31)) ||| ((1 : Int32) <<< (v2 &&& 31))) r15 k16) (by decide) (EC_24 X _ _) rfl km_X6_111 ki_yX6_fallsHadBy kv_X6_fallsHadBy kz_X6 kc_X6_fallsHadBy rfl ok_yX6_fallsHadBy ⟨Nat.le_of_ble_eq_true rfl, Nat.le_of_ble_eq_true rfl⟩ rfl rfl rfl rfl hl.1 (Nat.le_of_ble_eq_true rfl) dX6_quarrel_77 ⟨Nat.zero_le _, Nat.zero_le _⟩) (fun H locs hw => ?_)
    refine lv_if_le (tgt := 90) hx hb dX6_quarrel_80 (by decide) (fun c17 => ?_) (fun c17 => ?_)
    · replace hf := ite_t hf c17
      obtain ⟨x18, e19⟩ : ∃ z : Int32, z = v2 + (1 : Int32) := ⟨_, rfl⟩
      replace hf := bnd_nm hf e19
      refine lv_iinc (v := x18) (lv' := [(2, .int x18), (3, .int w0), (0, .ref (xq X 24)), (1, .int v1)]) hx hb dX6_quarrel_90 hl (k := 3) rfl (by rw [e19]; rfl) (by decide) rfl (fun ls hl => ?_)
      refine lv_goto (tgt := 21) hx hb dX6_quarrel_93 (by decide) ?_
      exact hB21 st v1 x18 _ _ _ hw (lv_sub hl [2, 3, 0] rfl) hf
    · replace hf := ite_f hf c17
      refine lv_bipush (v := 100) hx hb dX6_quarrel_83 (by decide) ?_
      refine lv_iload_n hx hb dX6_quarrel_85 rfl (lv_at hl 2 rfl) ?_
      refine lv_imul hx hb dX6_quarrel_86 ?_
      refine lv_iload_n hx hb dX6_quarrel_87 rfl (lv_at hl 3 rfl) ?_
      refine lv_iadd hx hb dX6_quarrel_88 ?_
      exact w_iret C hw hr (so2 hf).1 (so2 hf).2 dX6_quarrel_89
def fX6_quarrel_21 (kB6 : St → Int32 → Option (Int32 × St)) (n : Nat) : Nat → St → Int32 → Int32 → Option (Int32 × St)
  | 0, _, _, _ => none
  | k + 1, st, v1, v2 => if gI st 1 3 ≤ v2 then (bnd (v1 + (1 : Int32)) (fun x7 => kB6 st x7)) else (gd (inB v1 13) (gd (inB v2 13) (if gI st 13 v1.toNatClampNeg = gI st 13 v2.toNatClampNeg then (fX6_quarrel_64 kB6 (fX6_quarrel_21 kB6 n k) n st v1 v2 (0 : Int32)) else (fX6_quarrel_64 kB6 (fX6_quarrel_21 kB6 n k) n st v1 v2 (1 : Int32)))))
set_option maxHeartbeats 4000000 in
theorem tX6_quarrel_21 {p : Program} {l : Launch} {e : Env} {s : State} {m : MethodId} {args : Array Value} {below : List Frame} {meth : Method} {c : Code} {X : WX} (C : Amb 65 X p s m args meth c cX6_quarrel 4 RX6) (hr : meth.sig.returnType = some .int) {R : Int32 × St} {n : Nat} {kB6 : St → Int32 → Option (Int32 × St)} (hB6 : ∀ (st : St) (v1 : Int32) (H : Heap) (locs : List Loc) (ls : Array Slot), Wd EC 65 X s.heap st H locs → lv_has ls 4 [(0, .ref (xq X 24)), (1, .int v1)] → kB6 st v1 = some R → W p l e { frames := 5, cells := 0, slots := 0, locals := 124 } s m args below meth c H locs 0 0 (QI EC 65 X R.1 R.2 below args s) (F0 m 6 ls [])) : ∀ (k : Nat) (st : St) (v1 : Int32) (v2 : Int32) (H : Heap) (locs : List Loc) (ls : Array Slot), Wd EC 65 X s.heap st H locs → lv_has ls 4 [(0, .ref (xq X 24)), (1, .int v1), (2, .int v2)] → fX6_quarrel_21 kB6 n k st v1 v2 = some R → W p l e { frames := 5, cells := 0, slots := 0, locals := 124 } s m args below meth c H locs 0 0 (QI EC 65 X R.1 R.2 below args s) (F0 m 21 ls []) := by
  obtain ⟨hx, hb, hml, hown, hts⟩ := id C.1
  intro k
  induction k with
  | zero => intro st v1 v2 H locs ls  hw hl hf; exact absurd (show none = some R from hf) (fun z => by cases z)
  | succ k ih =>
    intro st v1 v2 H locs ls  hw hl hf
    rw [fX6_quarrel_21] at hf
    refine lv_iload_n hx hb dX6_quarrel_21 rfl (lv_at hl 2 rfl) ?_
    refine lv_aload_n hx hb dX6_quarrel_22 rfl (lv_at hl 0 rfl) ?_
    refine w_get (T := TX6) C hw (by decide) 4 kf_X6_20 (EC_24 X _ _) rfl inA6 (by decide) rfl dX6_quarrel_23 ?_
    refine w_get (T := TX3) C hw (by decide) 3 kf_X6_64 (EC_1 X _ _) rfl inA3 (by decide) rfl dX6_quarrel_26 ?_
    refine lv_icmp_ge (tgt := 96) hx hb dX6_quarrel_29 (by decide) (fun c6 => ?_) (fun c6 => ?_)
    · replace hf := ite_t hf c6
      obtain ⟨x7, e8⟩ : ∃ z : Int32, z = v1 + (1 : Int32) := ⟨_, rfl⟩
      replace hf := bnd_nm hf e8
      refine lv_iinc (v := x7) (lv' := [(1, .int x7), (0, .ref (xq X 24)), (2, .int v2)]) hx hb dX6_quarrel_96 hl (k := 1) rfl (by rw [e8]; rfl) (by decide) rfl (fun ls hl => ?_)
      refine lv_goto (tgt := 6) hx hb dX6_quarrel_99 (by decide) ?_
      exact hB6 st x7 _ _ _ hw (lv_sub hl [1, 0] rfl) hf
    · replace hf := ite_f hf c6
      refine lv_aload_n hx hb dX6_quarrel_32 rfl (lv_at hl 0 rfl) ?_
      refine w_get (T := TX6) C hw (by decide) 4 kf_X6_20 (EC_24 X _ _) rfl inA6 (by decide) rfl dX6_quarrel_33 ?_
      refine w_get (T := TX3) C hw (by decide) 0 kf_X6_39 (EC_1 X _ _) rfl inA3 (by decide) rfl dX6_quarrel_36 ?_
      refine lv_bipush (v := 10) hx hb dX6_quarrel_39 (by decide) ?_
      refine w_aald (k' := 13) C hw (by decide) (EC_2 X _ _) rfl rfl (by decide) rfl dX6_quarrel_41 ?_
      refine lv_iload_n hx hb dX6_quarrel_42 rfl (lv_at hl 1 rfl) ?_
      obtain ⟨h9, hf⟩ := gd_some hf
      refine w_iald C hw (by decide) (EC_13 X _ _) h9 rfl dX6_quarrel_43 ?_
      refine lv_aload_n hx hb dX6_quarrel_44 rfl (lv_at hl 0 rfl) ?_
      refine w_get (T := TX6) C hw (by decide) 4 kf_X6_20 (EC_24 X _ _) rfl inA6 (by decide) rfl dX6_quarrel_45 ?_
      refine w_get (T := TX3) C hw (by decide) 0 kf_X6_39 (EC_1 X _ _) rfl inA3 (by decide) rfl dX6_quarrel_48 ?_
      refine lv_bipush (v := 10) hx hb dX6_quarrel_51 (by decide) ?_
      refine w_aald (k' := 13) C hw (by decide) (EC_2 X _ _) rfl rfl (by decide) rfl dX6_quarrel_53 ?_
      refine lv_iload_n hx hb dX6_quarrel_54 rfl (lv_at hl 2 rfl) ?_
      obtain ⟨h10, hf⟩ := gd_some hf
      refine w_iald C hw (by decide) (EC_13 X _ _) h10 rfl dX6_quarrel_55 ?_
      refine lv_icmp_eq (tgt := 63) hx hb dX6_quarrel_56 (by decide) (fun c11 => ?_) (fun c11 => ?_)
      · replace hf := ite_t hf c11
        refine lv_iconst (v := 0) hx hb dX6_quarrel_63 (by decide) ?_
        exact tX6_quarrel_64 C hr hB6 ih st v1 v2 (0 : Int32) _ _ _ hw (lv_sub hl [0, 1, 2] rfl) hf
      · replace hf := ite_f hf c11
        refine lv_iconst (v := 1) hx hb dX6_quarrel_59 (by decide) ?_
        refine lv_goto (tgt := 64) hx hb dX6_quarrel_60 (by decide) ?_
        exact tX6_quarrel_64 C hr hB6 ih st v1 v2 (1 : Int32) _ _ _ hw (lv_sub hl [0, 1, 2] rfl) hf
def fX6_quarrel_6 (n : Nat) : Nat → St → Int32 → Option (Int32 × St)
  | 0, _, _ => none
  | k + 1, st, v1 => if gI st 1 3 ≤ v1 then (some ((-2 : Int32), st)) else (bnd (v1 + (1 : Int32)) (fun x4 => fX6_quarrel_21 (fX6_quarrel_6 n k) n n st v1 x4))
set_option maxHeartbeats 4000000 in
theorem tX6_quarrel_6 {p : Program} {l : Launch} {e : Env} {s : State} {m : MethodId} {args : Array Value} {below : List Frame} {meth : Method} {c : Code} {X : WX} (C : Amb 65 X p s m args meth c cX6_quarrel 4 RX6) (hr : meth.sig.returnType = some .int) {R : Int32 × St} {n : Nat} : ∀ (k : Nat) (st : St) (v1 : Int32) (H : Heap) (locs : List Loc) (ls : Array Slot), Wd EC 65 X s.heap st H locs → lv_has ls 4 [(0, .ref (xq X 24)), (1, .int v1)] → fX6_quarrel_6 n k st v1 = some R → W p l e { frames := 5, cells := 0, slots := 0, locals := 124 } s m args below meth c H locs 0 0 (QI EC 65 X R.1 R.2 below args s) (F0 m 6 ls []) := by
  obtain ⟨hx, hb, hml, hown, hts⟩ := id C.1
  intro k
  induction k with
  | zero => intro st v1 H locs ls  hw hl hf; exact absurd (show none = some R from hf) (fun z => by cases z)
  | succ k ih =>
    intro st v1 H locs ls  hw hl hf
    rw [fX6_quarrel_6] at hf
    refine lv_iload_n hx hb dX6_quarrel_6 rfl (lv_at hl 1 rfl) ?_
    refine lv_aload_n hx hb dX6_quarrel_7 rfl (lv_at hl 0 rfl) ?_
    refine w_get (T := TX6) C hw (by decide) 4 kf_X6_20 (EC_24 X _ _) rfl inA6 (by decide) rfl dX6_quarrel_8 ?_
    refine w_get (T := TX3) C hw (by decide) 3 kf_X6_64 (EC_1 X _ _) rfl inA3 (by decide) rfl dX6_quarrel_11 ?_
    refine lv_icmp_ge (tgt := 102) hx hb dX6_quarrel_14 (by decide) (fun c3 => ?_) (fun c3 => ?_)
    · replace hf := ite_t hf c3
      refine lv_bipush (v := -2) hx hb dX6_quarrel_102 (by decide) ?_
      exact w_iret C hw hr (so2 hf).1 (so2 hf).2 dX6_quarrel_104
    · replace hf := ite_f hf c3
      refine lv_iload_n hx hb dX6_quarrel_17 rfl (lv_at hl 1 rfl) ?_
      refine lv_iconst (v := 1) hx hb dX6_quarrel_18 (by decide) ?_
      refine lv_iadd hx hb dX6_quarrel_19 ?_
      refine lv_topi (fun x4 e5 => ?_)
      replace hf := bnd_nm hf e5
      refine lv_istore_n (lv' := [(2, .int x4), (0, .ref (xq X 24)), (1, .int v1)]) hx hb dX6_quarrel_20 rfl hl (by decide) rfl (fun ls hl => ?_)
      exact tX6_quarrel_21 C hr ih n st v1 x4 _ _ _ hw (lv_sub hl [1, 2, 0] rfl) hf
def fX6_quarrel (n : Nat) (st : St) : Option (Int32 × St) := (fX6_weighAll n st).bind (fun r1 => fX6_quarrel_6 n n r1 (0 : Int32))
set_option maxHeartbeats 4000000 in
theorem zX6_quarrel (l : Launch) (X : WX) (n : Nat) (st : St)  (R : Int32 × St) (hf : fX6_quarrel n st = some R) : CtI l yX6_quarrel cX6_quarrel 4 .int ({ frames := 5, cells := 0, slots := 0, locals := 124 }) EC 65 X [.ref (xq X 24)] st R.1 R.2 := by
  refine ct_in (own := RX6) (by decide +kernel) rfl (Nat.le_of_ble_eq_true rfl) (fun p e s m below meth c C hr hw ls hl => ?_)
  obtain ⟨hx, hb, hml, hown, hts⟩ := id C.1
  have hl : lv_has ls 4 [(0, .ref (xq X 24))] := hl
  unfold fX6_quarrel at hf
  refine lv_aload_n hx hb dX6_quarrel_0 rfl (lv_at hl 0 rfl) ?_
  obtain ⟨r1, k2, hf⟩ := bd_some hf
  refine w_goV hw (w_runV (rest := []) C hw (zX6_weighAll _ _ n st r1 k2) (by decide) (EC_24 X _ _) rfl km_X6_108 ki_yX6_weighAll kv_X6_weighAll kz_X6 kc_X6_weighAll rfl ok_yX6_weighAll ⟨Nat.le_of_ble_eq_true rfl, Nat.le_of_ble_eq_true rfl⟩ rfl rfl rfl rfl hl.1 (Nat.le_of_ble_eq_true rfl) dX6_quarrel_1 ⟨Nat.zero_le _, Nat.zero_le _⟩) (fun H locs hw => ?_)
  refine lv_iconst (v := 0) hx hb dX6_quarrel_4 (by decide) ?_
  refine lv_istore_n (lv' := [(1, .int (0 : Int32)), (0, .ref (xq X 24))]) hx hb dX6_quarrel_5 rfl hl (by decide) rfl (fun ls hl => ?_)
  exact tX6_quarrel_6 C hr n r1 (0 : Int32) _ _ _ hw (lv_sub hl [1, 0] rfl) hf
theorem dX6_busiest_0 : decode cX6_busiest 0 = .ok (.aload_n 0, 1) := by decide +kernel
theorem dX6_busiest_1 : decode cX6_busiest 1 = .ok (.invokevirtual 108, 3) := by decide +kernel
theorem dX6_busiest_4 : decode cX6_busiest 4 = .ok (.bipush (-2), 2) := by decide +kernel
theorem dX6_busiest_6 : decode cX6_busiest 6 = .ok (.istore_n 1, 1) := by decide +kernel
theorem dX6_busiest_7 : decode cX6_busiest 7 = .ok (.iconst 0, 1) := by decide +kernel
theorem dX6_busiest_8 : decode cX6_busiest 8 = .ok (.istore_n 2, 1) := by decide +kernel
theorem dX6_busiest_9 : decode cX6_busiest 9 = .ok (.iconst 0, 1) := by decide +kernel
theorem dX6_busiest_10 : decode cX6_busiest 10 = .ok (.istore_n 3, 1) := by decide +kernel
theorem dX6_busiest_11 : decode cX6_busiest 11 = .ok (.iload_n 3, 1) := by decide +kernel
theorem dX6_busiest_12 : decode cX6_busiest 12 = .ok (.aload_n 0, 1) := by decide +kernel
theorem dX6_busiest_13 : decode cX6_busiest 13 = .ok (.getfield 20, 3) := by decide +kernel
theorem dX6_busiest_16 : decode cX6_busiest 16 = .ok (.getfield 64, 3) := by decide +kernel
theorem dX6_busiest_19 : decode cX6_busiest 19 = .ok (.if_icmp .ge 29, 3) := by decide +kernel
theorem dX6_busiest_22 : decode cX6_busiest 22 = .ok (.aload_n 0, 1) := by decide +kernel
theorem dX6_busiest_23 : decode cX6_busiest 23 = .ok (.iconst 1, 1) := by decide +kernel
theorem dX6_busiest_24 : decode cX6_busiest 24 = .ok (.iload_n 3, 1) := by decide +kernel
theorem dX6_busiest_25 : decode cX6_busiest 25 = .ok (.ishl, 1) := by decide +kernel
theorem dX6_busiest_26 : decode cX6_busiest 26 = .ok (.invokevirtual 111, 3) := by decide +kernel
theorem dX6_busiest_29 : decode cX6_busiest 29 = .ok (.istore 4, 2) := by decide +kernel
theorem dX6_busiest_31 : decode cX6_busiest 31 = .ok (.iload 4, 2) := by decide +kernel
theorem dX6_busiest_33 : decode cX6_busiest 33 = .ok (.iload_n 2, 1) := by decide +kernel
theorem dX6_busiest_34 : decode cX6_busiest 34 = .ok (.if_icmp .le 8, 3) := by decide +kernel
theorem dX6_busiest_37 : decode cX6_busiest 37 = .ok (.iload_n 3, 1) := by decide +kernel
theorem dX6_busiest_38 : decode cX6_busiest 38 = .ok (.istore_n 1, 1) := by decide +kernel
theorem dX6_busiest_39 : decode cX6_busiest 39 = .ok (.iload 4, 2) := by decide +kernel
theorem dX6_busiest_41 : decode cX6_busiest 41 = .ok (.istore_n 2, 1) := by decide +kernel
theorem dX6_busiest_42 : decode cX6_busiest 42 = .ok (.iinc 3 1, 3) := by decide +kernel
theorem dX6_busiest_45 : decode cX6_busiest 45 = .ok (.goto (-34), 3) := by decide +kernel
theorem dX6_busiest_48 : decode cX6_busiest 48 = .ok (.iload_n 1, 1) := by decide +kernel
theorem dX6_busiest_49 : decode cX6_busiest 49 = .ok (.ireturn, 1) := by decide +kernel
theorem ok_yX6_busiest : yOk yX6_busiest 0 := ⟨by decide +kernel, by decide +kernel, by decide +kernel⟩
def fX6_busiest_11 (n : Nat) : Nat → St → Int32 → Int32 → Int32 → Option (Int32 × St)
  | 0, _, _, _, _ => none
  | k + 1, st, v1, v2, v3 => if gI st 1 3 ≤ v3 then (some (v1, st)) else ((fX6_fallsHadBy n st ((1 : Int32) <<< (v3 &&& 31))).bind (fun r4 => if r4 ≤ v2 then (bnd (v3 + (1 : Int32)) (fun x7 => fX6_busiest_11 n k st v1 v2 x7)) else (bnd (v3 + (1 : Int32)) (fun x9 => fX6_busiest_11 n k st v3 r4 x9))))
set_option maxHeartbeats 4000000 in
theorem tX6_busiest_11 {p : Program} {l : Launch} {e : Env} {s : State} {m : MethodId} {args : Array Value} {below : List Frame} {meth : Method} {c : Code} {X : WX} (C : Amb 65 X p s m args meth c cX6_busiest 5 RX6) (hr : meth.sig.returnType = some .int) {R : Int32 × St} {n : Nat} : ∀ (k : Nat) (st : St) (v1 : Int32) (v2 : Int32) (v3 : Int32) (H : Heap) (locs : List Loc) (ls : Array Slot), Wd EC 65 X s.heap st H locs → lv_has ls 5 [(0, .ref (xq X 24)), (1, .int v1), (2, .int v2), (3, .int v3)] → fX6_busiest_11 n k st v1 v2 v3 = some R → W p l e { frames := 5, cells := 0, slots := 0, locals := 124 } s m args below meth c H locs 0 0 (QI EC 65 X R.1 R.2 below args s) (F0 m 11 ls []) := by
  obtain ⟨hx, hb, hml, hown, hts⟩ := id C.1
  intro k
  induction k with
  | zero => intro st v1 v2 v3 H locs ls  hw hl hf; exact absurd (show none = some R from hf) (fun z => by cases z)
  | succ k ih =>
    intro st v1 v2 v3 H locs ls  hw hl hf
    rw [fX6_busiest_11] at hf
    refine lv_iload_n hx hb dX6_busiest_11 rfl (lv_at hl 3 rfl) ?_
    refine lv_aload_n hx hb dX6_busiest_12 rfl (lv_at hl 0 rfl) ?_
    refine w_get (T := TX6) C hw (by decide) 4 kf_X6_20 (EC_24 X _ _) rfl inA6 (by decide) rfl dX6_busiest_13 ?_
    refine w_get (T := TX3) C hw (by decide) 3 kf_X6_64 (EC_1 X _ _) rfl inA3 (by decide) rfl dX6_busiest_16 ?_
    refine lv_icmp_ge (tgt := 48) hx hb dX6_busiest_19 (by decide) (fun c3 => ?_) (fun c3 => ?_)
    · replace hf := ite_t hf c3
      refine lv_iload_n hx hb dX6_busiest_48 rfl (lv_at hl 1 rfl) ?_
      exact w_iret C hw hr (so2 hf).1 (so2 hf).2 dX6_busiest_49
    · replace hf := ite_f hf c3
      refine lv_aload_n hx hb dX6_busiest_22 rfl (lv_at hl 0 rfl) ?_
      refine lv_iconst (v := 1) hx hb dX6_busiest_23 (by decide) ?_
      refine lv_iload_n hx hb dX6_busiest_24 rfl (lv_at hl 3 rfl) ?_
      refine lv_ishl hx hb dX6_busiest_25 ?_
      obtain ⟨r4, k5, hf⟩ := bd_some hf
      refine w_goI hw (w_runV (rest := []) C hw (zX6_fallsHadBy _ _ n st ((1 : Int32) <<< (v3 &&& 31)) r4 k5) (by decide) (EC_24 X _ _) rfl km_X6_111 ki_yX6_fallsHadBy kv_X6_fallsHadBy kz_X6 kc_X6_fallsHadBy rfl ok_yX6_fallsHadBy ⟨Nat.le_of_ble_eq_true rfl, Nat.le_of_ble_eq_true rfl⟩ rfl rfl rfl rfl hl.1 (Nat.le_of_ble_eq_true rfl) dX6_busiest_26 ⟨Nat.zero_le _, Nat.zero_le _⟩) (fun H locs hw => ?_)
      refine lv_istore (lv' := [(4, .int r4), (0, .ref (xq X 24)), (1, .int v1), (2, .int v2), (3, .int v3)]) hx hb dX6_busiest_29 hl (by decide) rfl (fun ls hl => ?_)
      refine lv_iload hx hb dX6_busiest_31 (lv_at hl 0 rfl) ?_
      refine lv_iload_n hx hb dX6_busiest_33 rfl (lv_at hl 3 rfl) ?_
      refine lv_icmp_le (tgt := 42) hx hb dX6_busiest_34 (by decide) (fun c6 => ?_) (fun c6 => ?_)
      · replace hf := ite_t hf c6
        obtain ⟨x7, e8⟩ : ∃ z : Int32, z = v3 + (1 : Int32) := ⟨_, rfl⟩
        replace hf := bnd_nm hf e8
        refine lv_iinc (v := x7) (lv' := [(3, .int x7), (4, .int r4), (0, .ref (xq X 24)), (1, .int v1), (2, .int v2)]) hx hb dX6_busiest_42 hl (k := 4) rfl (by rw [e8]; rfl) (by decide) rfl (fun ls hl => ?_)
        refine lv_goto (tgt := 11) hx hb dX6_busiest_45 (by decide) ?_
        exact ih st v1 v2 x7 _ _ _ hw (lv_sub hl [2, 3, 4, 0] rfl) hf
      · replace hf := ite_f hf c6
        refine lv_iload_n hx hb dX6_busiest_37 rfl (lv_at hl 4 rfl) ?_
        refine lv_istore_n (lv' := [(1, .int v3), (4, .int r4), (0, .ref (xq X 24)), (2, .int v2), (3, .int v3)]) hx hb dX6_busiest_38 rfl hl (by decide) rfl (fun ls hl => ?_)
        refine lv_iload hx hb dX6_busiest_39 (lv_at hl 1 rfl) ?_
        refine lv_istore_n (lv' := [(2, .int r4), (1, .int v3), (4, .int r4), (0, .ref (xq X 24)), (3, .int v3)]) hx hb dX6_busiest_41 rfl hl (by decide) rfl (fun ls hl => ?_)
        obtain ⟨x9, e10⟩ : ∃ z : Int32, z = v3 + (1 : Int32) := ⟨_, rfl⟩
        replace hf := bnd_nm hf e10
        refine lv_iinc (v := x9) (lv' := [(3, .int x9), (2, .int r4), (1, .int v3), (4, .int r4), (0, .ref (xq X 24))]) hx hb dX6_busiest_42 hl (k := 4) rfl (by rw [e10]; rfl) (by decide) rfl (fun ls hl => ?_)
        refine lv_goto (tgt := 11) hx hb dX6_busiest_45 (by decide) ?_
        exact ih st v3 r4 x9 _ _ _ hw (lv_sub hl [4, 2, 1, 0] rfl) hf
def fX6_busiest (n : Nat) (st : St) : Option (Int32 × St) := (fX6_weighAll n st).bind (fun r1 => fX6_busiest_11 n n r1 (-2 : Int32) (0 : Int32) (0 : Int32))
set_option maxHeartbeats 4000000 in
theorem zX6_busiest (l : Launch) (X : WX) (n : Nat) (st : St)  (R : Int32 × St) (hf : fX6_busiest n st = some R) : CtI l yX6_busiest cX6_busiest 5 .int ({ frames := 5, cells := 0, slots := 0, locals := 124 }) EC 65 X [.ref (xq X 24)] st R.1 R.2 := by
  refine ct_in (own := RX6) (by decide +kernel) rfl (Nat.le_of_ble_eq_true rfl) (fun p e s m below meth c C hr hw ls hl => ?_)
  obtain ⟨hx, hb, hml, hown, hts⟩ := id C.1
  have hl : lv_has ls 5 [(0, .ref (xq X 24))] := hl
  unfold fX6_busiest at hf
  refine lv_aload_n hx hb dX6_busiest_0 rfl (lv_at hl 0 rfl) ?_
  obtain ⟨r1, k2, hf⟩ := bd_some hf
  refine w_goV hw (w_runV (rest := []) C hw (zX6_weighAll _ _ n st r1 k2) (by decide) (EC_24 X _ _) rfl km_X6_108 ki_yX6_weighAll kv_X6_weighAll kz_X6 kc_X6_weighAll rfl ok_yX6_weighAll ⟨Nat.le_of_ble_eq_true rfl, Nat.le_of_ble_eq_true rfl⟩ rfl rfl rfl rfl hl.1 (Nat.le_of_ble_eq_true rfl) dX6_busiest_1 ⟨Nat.zero_le _, Nat.zero_le _⟩) (fun H locs hw => ?_)
  refine lv_bipush (v := -2) hx hb dX6_busiest_4 (by decide) ?_
  refine lv_istore_n (lv' := [(1, .int (-2 : Int32)), (0, .ref (xq X 24))]) hx hb dX6_busiest_6 rfl hl (by decide) rfl (fun ls hl => ?_)
  refine lv_iconst (v := 0) hx hb dX6_busiest_7 (by decide) ?_
  refine lv_istore_n (lv' := [(2, .int (0 : Int32)), (1, .int (-2 : Int32)), (0, .ref (xq X 24))]) hx hb dX6_busiest_8 rfl hl (by decide) rfl (fun ls hl => ?_)
  refine lv_iconst (v := 0) hx hb dX6_busiest_9 (by decide) ?_
  refine lv_istore_n (lv' := [(3, .int (0 : Int32)), (2, .int (0 : Int32)), (1, .int (-2 : Int32)), (0, .ref (xq X 24))]) hx hb dX6_busiest_10 rfl hl (by decide) rfl (fun ls hl => ?_)
  exact tX6_busiest_11 C hr n r1 (-2 : Int32) (0 : Int32) (0 : Int32) _ _ _ hw (lv_sub hl [3, 2, 1, 0] rfl) hf
theorem dX6_mostFallsOfOne_0 : decode cX6_mostFallsOfOne 0 = .ok (.aload_n 0, 1) := by decide +kernel
theorem dX6_mostFallsOfOne_1 : decode cX6_mostFallsOfOne 1 = .ok (.invokevirtual 114, 3) := by decide +kernel
theorem dX6_mostFallsOfOne_4 : decode cX6_mostFallsOfOne 4 = .ok (.istore_n 1, 1) := by decide +kernel
theorem dX6_mostFallsOfOne_5 : decode cX6_mostFallsOfOne 5 = .ok (.iload_n 1, 1) := by decide +kernel
theorem dX6_mostFallsOfOne_6 : decode cX6_mostFallsOfOne 6 = .ok (.ifCond .ge 7, 3) := by decide +kernel
theorem dX6_mostFallsOfOne_9 : decode cX6_mostFallsOfOne 9 = .ok (.iconst 0, 1) := by decide +kernel
theorem dX6_mostFallsOfOne_10 : decode cX6_mostFallsOfOne 10 = .ok (.goto 10, 3) := by decide +kernel
theorem dX6_mostFallsOfOne_13 : decode cX6_mostFallsOfOne 13 = .ok (.aload_n 0, 1) := by decide +kernel
theorem dX6_mostFallsOfOne_14 : decode cX6_mostFallsOfOne 14 = .ok (.iconst 1, 1) := by decide +kernel
theorem dX6_mostFallsOfOne_15 : decode cX6_mostFallsOfOne 15 = .ok (.iload_n 1, 1) := by decide +kernel
theorem dX6_mostFallsOfOne_16 : decode cX6_mostFallsOfOne 16 = .ok (.ishl, 1) := by decide +kernel
theorem dX6_mostFallsOfOne_17 : decode cX6_mostFallsOfOne 17 = .ok (.invokevirtual 111, 3) := by decide +kernel
theorem dX6_mostFallsOfOne_20 : decode cX6_mostFallsOfOne 20 = .ok (.ireturn, 1) := by decide +kernel
theorem ok_yX6_mostFallsOfOne : yOk yX6_mostFallsOfOne 0 := ⟨by decide +kernel, by decide +kernel, by decide +kernel⟩
def fX6_mostFallsOfOne (n : Nat) (st : St) : Option (Int32 × St) := (fX6_busiest n st).bind (fun r1 => if 0 ≤ r1.1 then ((fX6_fallsHadBy n r1.2 ((1 : Int32) <<< (r1.1 &&& 31))).bind (fun r4 => some (r4, r1.2))) else (some ((0 : Int32), r1.2)))
set_option maxHeartbeats 4000000 in
theorem zX6_mostFallsOfOne (l : Launch) (X : WX) (n : Nat) (st : St)  (R : Int32 × St) (hf : fX6_mostFallsOfOne n st = some R) : CtI l yX6_mostFallsOfOne cX6_mostFallsOfOne 2 .int ({ frames := 6, cells := 0, slots := 0, locals := 148 }) EC 65 X [.ref (xq X 24)] st R.1 R.2 := by
  refine ct_in (own := RX6) (by decide +kernel) rfl (Nat.le_of_ble_eq_true rfl) (fun p e s m below meth c C hr hw ls hl => ?_)
  obtain ⟨hx, hb, hml, hown, hts⟩ := id C.1
  have hl : lv_has ls 2 [(0, .ref (xq X 24))] := hl
  unfold fX6_mostFallsOfOne at hf
  refine lv_aload_n hx hb dX6_mostFallsOfOne_0 rfl (lv_at hl 0 rfl) ?_
  obtain ⟨r1, k2, hf⟩ := bd_some hf
  refine w_goI hw (w_runV (rest := []) C hw (zX6_busiest _ _ n st r1 k2) (by decide) (EC_24 X _ _) rfl km_X6_114 ki_yX6_busiest kv_X6_busiest kz_X6 kc_X6_busiest rfl ok_yX6_busiest ⟨Nat.le_of_ble_eq_true rfl, Nat.le_of_ble_eq_true rfl⟩ rfl rfl rfl rfl hl.1 (Nat.le_of_ble_eq_true rfl) dX6_mostFallsOfOne_1 ⟨Nat.zero_le _, Nat.zero_le _⟩) (fun H locs hw => ?_)
  refine lv_istore_n (lv' := [(1, .int r1.1), (0, .ref (xq X 24))]) hx hb dX6_mostFallsOfOne_4 rfl hl (by decide) rfl (fun ls hl => ?_)
  refine lv_iload_n hx hb dX6_mostFallsOfOne_5 rfl (lv_at hl 0 rfl) ?_
  refine lv_if_ge (tgt := 13) hx hb dX6_mostFallsOfOne_6 (by decide) (fun c3 => ?_) (fun c3 => ?_)
  · replace hf := ite_t hf c3
    refine lv_aload_n hx hb dX6_mostFallsOfOne_13 rfl (lv_at hl 1 rfl) ?_
    refine lv_iconst (v := 1) hx hb dX6_mostFallsOfOne_14 (by decide) ?_
    refine lv_iload_n hx hb dX6_mostFallsOfOne_15 rfl (lv_at hl 0 rfl) ?_
    refine lv_ishl hx hb dX6_mostFallsOfOne_16 ?_
    obtain ⟨r4, k5, hf⟩ := bd_some hf
    refine w_goI hw (w_runV (rest := []) C hw (zX6_fallsHadBy _ _ n r1.2 ((1 : Int32) <<< (r1.1 &&& 31)) r4 k5) (by decide) (EC_24 X _ _) rfl km_X6_111 ki_yX6_fallsHadBy kv_X6_fallsHadBy kz_X6 kc_X6_fallsHadBy rfl ok_yX6_fallsHadBy ⟨Nat.le_of_ble_eq_true rfl, Nat.le_of_ble_eq_true rfl⟩ rfl rfl rfl rfl hl.1 (Nat.le_of_ble_eq_true rfl) dX6_mostFallsOfOne_17 ⟨Nat.zero_le _, Nat.zero_le _⟩) (fun H locs hw => ?_)
    exact w_iret C hw hr (so2 hf).1 (so2 hf).2 dX6_mostFallsOfOne_20
  · replace hf := ite_f hf c3
    refine lv_iconst (v := 0) hx hb dX6_mostFallsOfOne_9 (by decide) ?_
    refine lv_goto (tgt := 20) hx hb dX6_mostFallsOfOne_10 (by decide) ?_
    exact w_iret C hw hr (so2 hf).1 (so2 hf).2 dX6_mostFallsOfOne_20
theorem dX6_cried_0 : decode cX6_cried 0 = .ok (.iconst 0, 1) := by decide +kernel
theorem dX6_cried_1 : decode cX6_cried 1 = .ok (.istore_n 2, 1) := by decide +kernel
theorem dX6_cried_2 : decode cX6_cried 2 = .ok (.iload_n 2, 1) := by decide +kernel
theorem dX6_cried_3 : decode cX6_cried 3 = .ok (.aload_n 0, 1) := by decide +kernel
theorem dX6_cried_4 : decode cX6_cried 4 = .ok (.getfield 20, 3) := by decide +kernel
theorem dX6_cried_7 : decode cX6_cried 7 = .ok (.getfield 64, 3) := by decide +kernel
theorem dX6_cried_10 : decode cX6_cried 10 = .ok (.if_icmp .ge 27, 3) := by decide +kernel
theorem dX6_cried_13 : decode cX6_cried 13 = .ok (.aload_n 0, 1) := by decide +kernel
theorem dX6_cried_14 : decode cX6_cried 14 = .ok (.getfield 20, 3) := by decide +kernel
theorem dX6_cried_17 : decode cX6_cried 17 = .ok (.getfield 39, 3) := by decide +kernel
theorem dX6_cried_20 : decode cX6_cried 20 = .ok (.bipush 10, 2) := by decide +kernel
theorem dX6_cried_22 : decode cX6_cried 22 = .ok (.aaload, 1) := by decide +kernel
theorem dX6_cried_23 : decode cX6_cried 23 = .ok (.iload_n 2, 1) := by decide +kernel
theorem dX6_cried_24 : decode cX6_cried 24 = .ok (.iaload, 1) := by decide +kernel
theorem dX6_cried_25 : decode cX6_cried 25 = .ok (.iload_n 1, 1) := by decide +kernel
theorem dX6_cried_26 : decode cX6_cried 26 = .ok (.if_icmp .ne 5, 3) := by decide +kernel
theorem dX6_cried_29 : decode cX6_cried 29 = .ok (.iconst 1, 1) := by decide +kernel
theorem dX6_cried_30 : decode cX6_cried 30 = .ok (.ireturn, 1) := by decide +kernel
theorem dX6_cried_31 : decode cX6_cried 31 = .ok (.iinc 2 1, 3) := by decide +kernel
theorem dX6_cried_34 : decode cX6_cried 34 = .ok (.goto (-32), 3) := by decide +kernel
theorem dX6_cried_37 : decode cX6_cried 37 = .ok (.iconst 0, 1) := by decide +kernel
theorem dX6_cried_38 : decode cX6_cried 38 = .ok (.ireturn, 1) := by decide +kernel
theorem ok_yX6_cried : yOk yX6_cried 1 := ⟨by decide +kernel, by decide +kernel, by decide +kernel⟩
def fX6_cried_2 (n : Nat) (st : St) : Nat → Int32 → Int32 → Option (Bool)
  | 0, _, _ => none
  | k + 1, v1, v2 => if gI st 1 3 ≤ v2 then (some false) else (gd (inB v2 13) (if gI st 13 v2.toNatClampNeg = v1 then (some true) else (bnd (v2 + (1 : Int32)) (fun x4 => fX6_cried_2 n st k v1 x4))))
set_option maxHeartbeats 4000000 in
theorem tX6_cried_2 {p : Program} {l : Launch} {e : Env} {s : State} {m : MethodId} {args : Array Value} {below : List Frame} {meth : Method} {c : Code} {X : WX} (C : Amb 65 X p s m args meth c cX6_cried 3 RX6) (hr : meth.sig.returnType = some .boolean) {R : Bool} {n : Nat} {st : St} : ∀ (k : Nat) (v1 : Int32) (v2 : Int32) (H : Heap) (locs : List Loc) (ls : Array Slot), Wd EC 65 X s.heap st H locs → lv_has ls 3 [(0, .ref (xq X 24)), (1, .int v1), (2, .int v2)] → fX6_cried_2 n st k v1 v2 = some R → W p l e { frames := 0, cells := 0, slots := 0, locals := 0 } s m args below meth c H locs 0 0 (QI EC 65 X (bI R) st below args s) (F0 m 2 ls []) := by
  obtain ⟨hx, hb, hml, hown, hts⟩ := id C.1
  intro k
  induction k with
  | zero => intro v1 v2 H locs ls  hw hl hf; exact absurd (show none = some R from hf) (fun z => by cases z)
  | succ k ih =>
    intro v1 v2 H locs ls  hw hl hf
    rw [fX6_cried_2] at hf
    refine lv_iload_n hx hb dX6_cried_2 rfl (lv_at hl 2 rfl) ?_
    refine lv_aload_n hx hb dX6_cried_3 rfl (lv_at hl 0 rfl) ?_
    refine w_get (T := TX6) C hw (by decide) 4 kf_X6_20 (EC_24 X _ _) rfl inA6 (by decide) rfl dX6_cried_4 ?_
    refine w_get (T := TX3) C hw (by decide) 3 kf_X6_64 (EC_1 X _ _) rfl inA3 (by decide) rfl dX6_cried_7 ?_
    refine lv_icmp_ge (tgt := 37) hx hb dX6_cried_10 (by decide) (fun c1 => ?_) (fun c1 => ?_)
    · replace hf := ite_t hf c1
      refine lv_iconst (v := 0) hx hb dX6_cried_37 (by decide) ?_
      exact w_zret (b := false) C hw hr rfl (Option.some.inj hf) rfl dX6_cried_38
    · replace hf := ite_f hf c1
      refine lv_aload_n hx hb dX6_cried_13 rfl (lv_at hl 0 rfl) ?_
      refine w_get (T := TX6) C hw (by decide) 4 kf_X6_20 (EC_24 X _ _) rfl inA6 (by decide) rfl dX6_cried_14 ?_
      refine w_get (T := TX3) C hw (by decide) 0 kf_X6_39 (EC_1 X _ _) rfl inA3 (by decide) rfl dX6_cried_17 ?_
      refine lv_bipush (v := 10) hx hb dX6_cried_20 (by decide) ?_
      refine w_aald (k' := 13) C hw (by decide) (EC_2 X _ _) rfl rfl (by decide) rfl dX6_cried_22 ?_
      refine lv_iload_n hx hb dX6_cried_23 rfl (lv_at hl 2 rfl) ?_
      obtain ⟨h2, hf⟩ := gd_some hf
      refine w_iald C hw (by decide) (EC_13 X _ _) h2 rfl dX6_cried_24 ?_
      refine lv_iload_n hx hb dX6_cried_25 rfl (lv_at hl 1 rfl) ?_
      refine lv_icmp_ne (tgt := 31) hx hb dX6_cried_26 (by decide) (fun c3 => ?_) (fun c3 => ?_)
      · replace hf := ite_f hf c3
        obtain ⟨x4, e5⟩ : ∃ z : Int32, z = v2 + (1 : Int32) := ⟨_, rfl⟩
        replace hf := bnd_nm hf e5
        refine lv_iinc (v := x4) (lv' := [(2, .int x4), (0, .ref (xq X 24)), (1, .int v1)]) hx hb dX6_cried_31 hl (k := 2) rfl (by rw [e5]; rfl) (by decide) rfl (fun ls hl => ?_)
        refine lv_goto (tgt := 2) hx hb dX6_cried_34 (by decide) ?_
        exact ih v1 x4 _ _ _ hw (lv_sub hl [1, 2, 0] rfl) hf
      · replace hf := ite_t hf c3
        refine lv_iconst (v := 1) hx hb dX6_cried_29 (by decide) ?_
        exact w_zret (b := true) C hw hr rfl (Option.some.inj hf) rfl dX6_cried_30
def fX6_cried (n : Nat) (st : St) (a1 : Int32) : Option (Bool) := fX6_cried_2 n st n a1 (0 : Int32)
set_option maxHeartbeats 4000000 in
theorem zX6_cried (l : Launch) (X : WX) (n : Nat) (st : St) (a1 : Int32) (R : Bool) (hf : fX6_cried n st a1 = some R) : CtI l yX6_cried cX6_cried 3 .boolean ({ frames := 0, cells := 0, slots := 0, locals := 0 }) EC 65 X [.ref (xq X 24), .int a1] st (bI R) st := by
  refine ct_in (own := RX6) (by decide +kernel) rfl (Nat.le_of_ble_eq_true rfl) (fun p e s m below meth c C hr hw ls hl => ?_)
  obtain ⟨hx, hb, hml, hown, hts⟩ := id C.1
  have hl : lv_has ls 3 [(0, .ref (xq X 24)), (1, .int a1)] := hl
  unfold fX6_cried at hf
  refine lv_iconst (v := 0) hx hb dX6_cried_0 (by decide) ?_
  refine lv_istore_n (lv' := [(2, .int (0 : Int32)), (0, .ref (xq X 24)), (1, .int a1)]) hx hb dX6_cried_1 rfl hl (by decide) rfl (fun ls hl => ?_)
  exact tX6_cried_2 C hr n a1 (0 : Int32) _ _ _ hw (lv_sub hl [1, 2, 0] rfl) hf
theorem dX6_skeptic_0 : decode cX6_skeptic 0 = .ok (.aload_n 0, 1) := by decide +kernel
theorem dX6_skeptic_1 : decode cX6_skeptic 1 = .ok (.invokevirtual 118, 3) := by decide +kernel
theorem dX6_skeptic_4 : decode cX6_skeptic 4 = .ok (.iconst 0, 1) := by decide +kernel
theorem dX6_skeptic_5 : decode cX6_skeptic 5 = .ok (.istore_n 1, 1) := by decide +kernel
theorem dX6_skeptic_6 : decode cX6_skeptic 6 = .ok (.iload_n 1, 1) := by decide +kernel
theorem dX6_skeptic_7 : decode cX6_skeptic 7 = .ok (.bipush 6, 2) := by decide +kernel
theorem dX6_skeptic_9 : decode cX6_skeptic 9 = .ok (.if_icmp .ge 27, 3) := by decide +kernel
theorem dX6_skeptic_12 : decode cX6_skeptic 12 = .ok (.aload_n 0, 1) := by decide +kernel
theorem dX6_skeptic_13 : decode cX6_skeptic 13 = .ok (.iload_n 1, 1) := by decide +kernel
theorem dX6_skeptic_14 : decode cX6_skeptic 14 = .ok (.invokevirtual 96, 3) := by decide +kernel
theorem dX6_skeptic_17 : decode cX6_skeptic 17 = .ok (.ifCond .le 13, 3) := by decide +kernel
theorem dX6_skeptic_20 : decode cX6_skeptic 20 = .ok (.aload_n 0, 1) := by decide +kernel
theorem dX6_skeptic_21 : decode cX6_skeptic 21 = .ok (.iload_n 1, 1) := by decide +kernel
theorem dX6_skeptic_22 : decode cX6_skeptic 22 = .ok (.invokevirtual 121, 3) := by decide +kernel
theorem dX6_skeptic_25 : decode cX6_skeptic 25 = .ok (.ifCond .ne 5, 3) := by decide +kernel
theorem dX6_skeptic_28 : decode cX6_skeptic 28 = .ok (.iload_n 1, 1) := by decide +kernel
theorem dX6_skeptic_29 : decode cX6_skeptic 29 = .ok (.ireturn, 1) := by decide +kernel
theorem dX6_skeptic_30 : decode cX6_skeptic 30 = .ok (.iinc 1 1, 3) := by decide +kernel
theorem dX6_skeptic_33 : decode cX6_skeptic 33 = .ok (.goto (-27), 3) := by decide +kernel
theorem dX6_skeptic_36 : decode cX6_skeptic 36 = .ok (.bipush (-2), 2) := by decide +kernel
theorem dX6_skeptic_38 : decode cX6_skeptic 38 = .ok (.ireturn, 1) := by decide +kernel
theorem ok_yX6_skeptic : yOk yX6_skeptic 0 := ⟨by decide +kernel, by decide +kernel, by decide +kernel⟩
def fX6_skeptic_6 (n : Nat) : Nat → St → Int32 → Option (Int32 × St)
  | 0, _, _ => none
  | k + 1, st, v1 => if (6 : Int32) ≤ v1 then (some ((-2 : Int32), st)) else ((fX6_owes n st v1).bind (fun r4 => if r4 ≤ 0 then (bnd (v1 + (1 : Int32)) (fun x7 => fX6_skeptic_6 n k st x7)) else ((fX6_cried n st v1).bind (fun r9 => if bI r9 = 0 then (some (v1, st)) else (bnd (v1 + (1 : Int32)) (fun x12 => fX6_skeptic_6 n k st x12))))))
set_option maxHeartbeats 4000000 in
theorem tX6_skeptic_6 {p : Program} {l : Launch} {e : Env} {s : State} {m : MethodId} {args : Array Value} {below : List Frame} {meth : Method} {c : Code} {X : WX} (C : Amb 65 X p s m args meth c cX6_skeptic 2 RX6) (hr : meth.sig.returnType = some .int) {R : Int32 × St} {n : Nat} : ∀ (k : Nat) (st : St) (v1 : Int32) (H : Heap) (locs : List Loc) (ls : Array Slot), Wd EC 65 X s.heap st H locs → lv_has ls 2 [(0, .ref (xq X 24)), (1, .int v1)] → fX6_skeptic_6 n k st v1 = some R → W p l e { frames := 6, cells := 0, slots := 0, locals := 151 } s m args below meth c H locs 0 0 (QI EC 65 X R.1 R.2 below args s) (F0 m 6 ls []) := by
  obtain ⟨hx, hb, hml, hown, hts⟩ := id C.1
  intro k
  induction k with
  | zero => intro st v1 H locs ls  hw hl hf; exact absurd (show none = some R from hf) (fun z => by cases z)
  | succ k ih =>
    intro st v1 H locs ls  hw hl hf
    rw [fX6_skeptic_6] at hf
    refine lv_iload_n hx hb dX6_skeptic_6 rfl (lv_at hl 1 rfl) ?_
    refine lv_bipush (v := 6) hx hb dX6_skeptic_7 (by decide) ?_
    refine lv_icmp_ge (tgt := 36) hx hb dX6_skeptic_9 (by decide) (fun c3 => ?_) (fun c3 => ?_)
    · replace hf := ite_t hf c3
      refine lv_bipush (v := -2) hx hb dX6_skeptic_36 (by decide) ?_
      exact w_iret C hw hr (so2 hf).1 (so2 hf).2 dX6_skeptic_38
    · replace hf := ite_f hf c3
      refine lv_aload_n hx hb dX6_skeptic_12 rfl (lv_at hl 0 rfl) ?_
      refine lv_iload_n hx hb dX6_skeptic_13 rfl (lv_at hl 1 rfl) ?_
      obtain ⟨r4, k5, hf⟩ := bd_some hf
      refine w_goI hw (w_runV (rest := []) C hw (zX6_owes _ _ n st v1 r4 k5) (by decide) (EC_24 X _ _) rfl km_X6_96 ki_yX6_owes kv_X6_owes kz_X6 kc_X6_owes rfl ok_yX6_owes ⟨Nat.le_of_ble_eq_true rfl, Nat.le_of_ble_eq_true rfl⟩ rfl rfl rfl rfl hl.1 (Nat.le_of_ble_eq_true rfl) dX6_skeptic_14 ⟨Nat.zero_le _, Nat.zero_le _⟩) (fun H locs hw => ?_)
      refine lv_if_le (tgt := 30) hx hb dX6_skeptic_17 (by decide) (fun c6 => ?_) (fun c6 => ?_)
      · replace hf := ite_t hf c6
        obtain ⟨x7, e8⟩ : ∃ z : Int32, z = v1 + (1 : Int32) := ⟨_, rfl⟩
        replace hf := bnd_nm hf e8
        refine lv_iinc (v := x7) (lv' := [(1, .int x7), (0, .ref (xq X 24))]) hx hb dX6_skeptic_30 hl (k := 1) rfl (by rw [e8]; rfl) (by decide) rfl (fun ls hl => ?_)
        refine lv_goto (tgt := 6) hx hb dX6_skeptic_33 (by decide) ?_
        exact ih st x7 _ _ _ hw (lv_sub hl [1, 0] rfl) hf
      · replace hf := ite_f hf c6
        refine lv_aload_n hx hb dX6_skeptic_20 rfl (lv_at hl 0 rfl) ?_
        refine lv_iload_n hx hb dX6_skeptic_21 rfl (lv_at hl 1 rfl) ?_
        obtain ⟨r9, k10, hf⟩ := bd_some hf
        refine w_goI hw (w_runV (rest := []) C hw (zX6_cried _ _ n st v1 r9 k10) (by decide) (EC_24 X _ _) rfl km_X6_121 ki_yX6_cried kv_X6_cried kz_X6 kc_X6_cried rfl ok_yX6_cried ⟨Nat.le_of_ble_eq_true rfl, Nat.le_of_ble_eq_true rfl⟩ rfl rfl rfl rfl hl.1 (Nat.le_of_ble_eq_true rfl) dX6_skeptic_22 ⟨Nat.zero_le _, Nat.zero_le _⟩) (fun H locs hw => ?_)
        refine lv_if_ne (tgt := 30) hx hb dX6_skeptic_25 (by decide) (fun c11 => ?_) (fun c11 => ?_)
        · replace hf := ite_f hf c11
          obtain ⟨x12, e13⟩ : ∃ z : Int32, z = v1 + (1 : Int32) := ⟨_, rfl⟩
          replace hf := bnd_nm hf e13
          refine lv_iinc (v := x12) (lv' := [(1, .int x12), (0, .ref (xq X 24))]) hx hb dX6_skeptic_30 hl (k := 1) rfl (by rw [e13]; rfl) (by decide) rfl (fun ls hl => ?_)
          refine lv_goto (tgt := 6) hx hb dX6_skeptic_33 (by decide) ?_
          exact ih st x12 _ _ _ hw (lv_sub hl [1, 0] rfl) hf
        · replace hf := ite_t hf c11
          refine lv_iload_n hx hb dX6_skeptic_28 rfl (lv_at hl 1 rfl) ?_
          exact w_iret C hw hr (so2 hf).1 (so2 hf).2 dX6_skeptic_29
def fX6_skeptic (n : Nat) (st : St) : Option (Int32 × St) := (fX6_reckonDebts n st).bind (fun r1 => fX6_skeptic_6 n n r1 (0 : Int32))
set_option maxHeartbeats 4000000 in
theorem zX6_skeptic (l : Launch) (X : WX) (n : Nat) (st : St)  (R : Int32 × St) (hf : fX6_skeptic n st = some R) : CtI l yX6_skeptic cX6_skeptic 2 .int ({ frames := 6, cells := 0, slots := 0, locals := 151 }) EC 65 X [.ref (xq X 24)] st R.1 R.2 := by
  refine ct_in (own := RX6) (by decide +kernel) rfl (Nat.le_of_ble_eq_true rfl) (fun p e s m below meth c C hr hw ls hl => ?_)
  obtain ⟨hx, hb, hml, hown, hts⟩ := id C.1
  have hl : lv_has ls 2 [(0, .ref (xq X 24))] := hl
  unfold fX6_skeptic at hf
  refine lv_aload_n hx hb dX6_skeptic_0 rfl (lv_at hl 0 rfl) ?_
  obtain ⟨r1, k2, hf⟩ := bd_some hf
  refine w_goV hw (w_runV (rest := []) C hw (zX6_reckonDebts _ _ n st r1 k2) (by decide) (EC_24 X _ _) rfl km_X6_118 ki_yX6_reckonDebts kv_X6_reckonDebts kz_X6 kc_X6_reckonDebts rfl ok_yX6_reckonDebts ⟨Nat.le_of_ble_eq_true rfl, Nat.le_of_ble_eq_true rfl⟩ rfl rfl rfl rfl hl.1 (Nat.le_of_ble_eq_true rfl) dX6_skeptic_1 ⟨Nat.zero_le _, Nat.zero_le _⟩) (fun H locs hw => ?_)
  refine lv_iconst (v := 0) hx hb dX6_skeptic_4 (by decide) ?_
  refine lv_istore_n (lv' := [(1, .int (0 : Int32)), (0, .ref (xq X 24))]) hx hb dX6_skeptic_5 rfl hl (by decide) rfl (fun ls hl => ?_)
  exact tX6_skeptic_6 C hr n r1 (0 : Int32) _ _ _ hw (lv_sub hl [1, 0] rfl) hf
theorem dX6_idle_0 : decode cX6_idle 0 = .ok (.aload_n 0, 1) := by decide +kernel
theorem dX6_idle_1 : decode cX6_idle 1 = .ok (.invokevirtual 108, 3) := by decide +kernel
theorem dX6_idle_4 : decode cX6_idle 4 = .ok (.iconst 0, 1) := by decide +kernel
theorem dX6_idle_5 : decode cX6_idle 5 = .ok (.istore_n 1, 1) := by decide +kernel
theorem dX6_idle_6 : decode cX6_idle 6 = .ok (.iconst 0, 1) := by decide +kernel
theorem dX6_idle_7 : decode cX6_idle 7 = .ok (.istore_n 2, 1) := by decide +kernel
theorem dX6_idle_8 : decode cX6_idle 8 = .ok (.iload_n 2, 1) := by decide +kernel
theorem dX6_idle_9 : decode cX6_idle 9 = .ok (.aload_n 0, 1) := by decide +kernel
theorem dX6_idle_10 : decode cX6_idle 10 = .ok (.getfield 20, 3) := by decide +kernel
theorem dX6_idle_13 : decode cX6_idle 13 = .ok (.getfield 64, 3) := by decide +kernel
theorem dX6_idle_16 : decode cX6_idle 16 = .ok (.if_icmp .ge 25, 3) := by decide +kernel
theorem dX6_idle_19 : decode cX6_idle 19 = .ok (.aload_n 0, 1) := by decide +kernel
theorem dX6_idle_20 : decode cX6_idle 20 = .ok (.iconst 1, 1) := by decide +kernel
theorem dX6_idle_21 : decode cX6_idle 21 = .ok (.iload_n 2, 1) := by decide +kernel
theorem dX6_idle_22 : decode cX6_idle 22 = .ok (.ishl, 1) := by decide +kernel
theorem dX6_idle_23 : decode cX6_idle 23 = .ok (.invokevirtual 111, 3) := by decide +kernel
theorem dX6_idle_26 : decode cX6_idle 26 = .ok (.ifCond .ne 9, 3) := by decide +kernel
theorem dX6_idle_29 : decode cX6_idle 29 = .ok (.iload_n 1, 1) := by decide +kernel
theorem dX6_idle_30 : decode cX6_idle 30 = .ok (.iconst 1, 1) := by decide +kernel
theorem dX6_idle_31 : decode cX6_idle 31 = .ok (.iload_n 2, 1) := by decide +kernel
theorem dX6_idle_32 : decode cX6_idle 32 = .ok (.ishl, 1) := by decide +kernel
theorem dX6_idle_33 : decode cX6_idle 33 = .ok (.ior, 1) := by decide +kernel
theorem dX6_idle_34 : decode cX6_idle 34 = .ok (.istore_n 1, 1) := by decide +kernel
theorem dX6_idle_35 : decode cX6_idle 35 = .ok (.iinc 2 1, 3) := by decide +kernel
theorem dX6_idle_38 : decode cX6_idle 38 = .ok (.goto (-30), 3) := by decide +kernel
theorem dX6_idle_41 : decode cX6_idle 41 = .ok (.iload_n 1, 1) := by decide +kernel
theorem dX6_idle_42 : decode cX6_idle 42 = .ok (.ireturn, 1) := by decide +kernel
theorem ok_yX6_idle : yOk yX6_idle 0 := ⟨by decide +kernel, by decide +kernel, by decide +kernel⟩
def fX6_idle_8 (n : Nat) : Nat → St → Int32 → Int32 → Option (Int32 × St)
  | 0, _, _, _ => none
  | k + 1, st, v1, v2 => if gI st 1 3 ≤ v2 then (some (v1, st)) else ((fX6_fallsHadBy n st ((1 : Int32) <<< (v2 &&& 31))).bind (fun r4 => if r4 = 0 then (bnd (v1 ||| ((1 : Int32) <<< (v2 &&& 31))) (fun x9 => bnd (v2 + (1 : Int32)) (fun x11 => fX6_idle_8 n k st x9 x11))) else (bnd (v2 + (1 : Int32)) (fun x7 => fX6_idle_8 n k st v1 x7))))
set_option maxHeartbeats 4000000 in
theorem tX6_idle_8 {p : Program} {l : Launch} {e : Env} {s : State} {m : MethodId} {args : Array Value} {below : List Frame} {meth : Method} {c : Code} {X : WX} (C : Amb 65 X p s m args meth c cX6_idle 3 RX6) (hr : meth.sig.returnType = some .int) {R : Int32 × St} {n : Nat} : ∀ (k : Nat) (st : St) (v1 : Int32) (v2 : Int32) (H : Heap) (locs : List Loc) (ls : Array Slot), Wd EC 65 X s.heap st H locs → lv_has ls 3 [(0, .ref (xq X 24)), (1, .int v1), (2, .int v2)] → fX6_idle_8 n k st v1 v2 = some R → W p l e { frames := 5, cells := 0, slots := 0, locals := 124 } s m args below meth c H locs 0 0 (QI EC 65 X R.1 R.2 below args s) (F0 m 8 ls []) := by
  obtain ⟨hx, hb, hml, hown, hts⟩ := id C.1
  intro k
  induction k with
  | zero => intro st v1 v2 H locs ls  hw hl hf; exact absurd (show none = some R from hf) (fun z => by cases z)
  | succ k ih =>
    intro st v1 v2 H locs ls  hw hl hf
    rw [fX6_idle_8] at hf
    refine lv_iload_n hx hb dX6_idle_8 rfl (lv_at hl 2 rfl) ?_
    refine lv_aload_n hx hb dX6_idle_9 rfl (lv_at hl 0 rfl) ?_
    refine w_get (T := TX6) C hw (by decide) 4 kf_X6_20 (EC_24 X _ _) rfl inA6 (by decide) rfl dX6_idle_10 ?_
    refine w_get (T := TX3) C hw (by decide) 3 kf_X6_64 (EC_1 X _ _) rfl inA3 (by decide) rfl dX6_idle_13 ?_
    refine lv_icmp_ge (tgt := 41) hx hb dX6_idle_16 (by decide) (fun c3 => ?_) (fun c3 => ?_)
    · replace hf := ite_t hf c3
      refine lv_iload_n hx hb dX6_idle_41 rfl (lv_at hl 1 rfl) ?_
      exact w_iret C hw hr (so2 hf).1 (so2 hf).2 dX6_idle_42
    · replace hf := ite_f hf c3
      refine lv_aload_n hx hb dX6_idle_19 rfl (lv_at hl 0 rfl) ?_
      refine lv_iconst (v := 1) hx hb dX6_idle_20 (by decide) ?_
      refine lv_iload_n hx hb dX6_idle_21 rfl (lv_at hl 2 rfl) ?_
      refine lv_ishl hx hb dX6_idle_22 ?_
      obtain ⟨r4, k5, hf⟩ := bd_some hf
      refine w_goI hw (w_runV (rest := []) C hw (zX6_fallsHadBy _ _ n st ((1 : Int32) <<< (v2 &&& 31)) r4 k5) (by decide) (EC_24 X _ _) rfl km_X6_111 ki_yX6_fallsHadBy kv_X6_fallsHadBy kz_X6 kc_X6_fallsHadBy rfl ok_yX6_fallsHadBy ⟨Nat.le_of_ble_eq_true rfl, Nat.le_of_ble_eq_true rfl⟩ rfl rfl rfl rfl hl.1 (Nat.le_of_ble_eq_true rfl) dX6_idle_23 ⟨Nat.zero_le _, Nat.zero_le _⟩) (fun H locs hw => ?_)
      refine lv_if_ne (tgt := 35) hx hb dX6_idle_26 (by decide) (fun c6 => ?_) (fun c6 => ?_)
      · replace hf := ite_f hf c6
        obtain ⟨x7, e8⟩ : ∃ z : Int32, z = v2 + (1 : Int32) := ⟨_, rfl⟩
        replace hf := bnd_nm hf e8
        refine lv_iinc (v := x7) (lv' := [(2, .int x7), (0, .ref (xq X 24)), (1, .int v1)]) hx hb dX6_idle_35 hl (k := 2) rfl (by rw [e8]; rfl) (by decide) rfl (fun ls hl => ?_)
        refine lv_goto (tgt := 8) hx hb dX6_idle_38 (by decide) ?_
        exact ih st v1 x7 _ _ _ hw (lv_sub hl [1, 2, 0] rfl) hf
      · replace hf := ite_t hf c6
        refine lv_iload_n hx hb dX6_idle_29 rfl (lv_at hl 1 rfl) ?_
        refine lv_iconst (v := 1) hx hb dX6_idle_30 (by decide) ?_
        refine lv_iload_n hx hb dX6_idle_31 rfl (lv_at hl 2 rfl) ?_
        refine lv_ishl hx hb dX6_idle_32 ?_
        refine lv_ior hx hb dX6_idle_33 ?_
        refine lv_topi (fun x9 e10 => ?_)
        replace hf := bnd_nm hf e10
        refine lv_istore_n (lv' := [(1, .int x9), (0, .ref (xq X 24)), (2, .int v2)]) hx hb dX6_idle_34 rfl hl (by decide) rfl (fun ls hl => ?_)
        obtain ⟨x11, e12⟩ : ∃ z : Int32, z = v2 + (1 : Int32) := ⟨_, rfl⟩
        replace hf := bnd_nm hf e12
        refine lv_iinc (v := x11) (lv' := [(2, .int x11), (1, .int x9), (0, .ref (xq X 24))]) hx hb dX6_idle_35 hl (k := 2) rfl (by rw [e12]; rfl) (by decide) rfl (fun ls hl => ?_)
        refine lv_goto (tgt := 8) hx hb dX6_idle_38 (by decide) ?_
        exact ih st x9 x11 _ _ _ hw (lv_sub hl [2, 1, 0] rfl) hf
def fX6_idle (n : Nat) (st : St) : Option (Int32 × St) := (fX6_weighAll n st).bind (fun r1 => fX6_idle_8 n n r1 (0 : Int32) (0 : Int32))
set_option maxHeartbeats 4000000 in
theorem zX6_idle (l : Launch) (X : WX) (n : Nat) (st : St)  (R : Int32 × St) (hf : fX6_idle n st = some R) : CtI l yX6_idle cX6_idle 3 .int ({ frames := 5, cells := 0, slots := 0, locals := 124 }) EC 65 X [.ref (xq X 24)] st R.1 R.2 := by
  refine ct_in (own := RX6) (by decide +kernel) rfl (Nat.le_of_ble_eq_true rfl) (fun p e s m below meth c C hr hw ls hl => ?_)
  obtain ⟨hx, hb, hml, hown, hts⟩ := id C.1
  have hl : lv_has ls 3 [(0, .ref (xq X 24))] := hl
  unfold fX6_idle at hf
  refine lv_aload_n hx hb dX6_idle_0 rfl (lv_at hl 0 rfl) ?_
  obtain ⟨r1, k2, hf⟩ := bd_some hf
  refine w_goV hw (w_runV (rest := []) C hw (zX6_weighAll _ _ n st r1 k2) (by decide) (EC_24 X _ _) rfl km_X6_108 ki_yX6_weighAll kv_X6_weighAll kz_X6 kc_X6_weighAll rfl ok_yX6_weighAll ⟨Nat.le_of_ble_eq_true rfl, Nat.le_of_ble_eq_true rfl⟩ rfl rfl rfl rfl hl.1 (Nat.le_of_ble_eq_true rfl) dX6_idle_1 ⟨Nat.zero_le _, Nat.zero_le _⟩) (fun H locs hw => ?_)
  refine lv_iconst (v := 0) hx hb dX6_idle_4 (by decide) ?_
  refine lv_istore_n (lv' := [(1, .int (0 : Int32)), (0, .ref (xq X 24))]) hx hb dX6_idle_5 rfl hl (by decide) rfl (fun ls hl => ?_)
  refine lv_iconst (v := 0) hx hb dX6_idle_6 (by decide) ?_
  refine lv_istore_n (lv' := [(2, .int (0 : Int32)), (1, .int (0 : Int32)), (0, .ref (xq X 24))]) hx hb dX6_idle_7 rfl hl (by decide) rfl (fun ls hl => ?_)
  exact tX6_idle_8 C hr n r1 (0 : Int32) (0 : Int32) _ _ _ hw (lv_sub hl [2, 1, 0] rfl) hf
theorem dX6_cryingOf_0 : decode cX6_cryingOf 0 = .ok (.iconst 0, 1) := by decide +kernel
theorem dX6_cryingOf_1 : decode cX6_cryingOf 1 = .ok (.istore_n 2, 1) := by decide +kernel
theorem dX6_cryingOf_2 : decode cX6_cryingOf 2 = .ok (.iconst 0, 1) := by decide +kernel
theorem dX6_cryingOf_3 : decode cX6_cryingOf 3 = .ok (.istore_n 3, 1) := by decide +kernel
theorem dX6_cryingOf_4 : decode cX6_cryingOf 4 = .ok (.iload_n 3, 1) := by decide +kernel
theorem dX6_cryingOf_5 : decode cX6_cryingOf 5 = .ok (.aload_n 0, 1) := by decide +kernel
theorem dX6_cryingOf_6 : decode cX6_cryingOf 6 = .ok (.getfield 20, 3) := by decide +kernel
theorem dX6_cryingOf_9 : decode cX6_cryingOf 9 = .ok (.getfield 64, 3) := by decide +kernel
theorem dX6_cryingOf_12 : decode cX6_cryingOf 12 = .ok (.if_icmp .ge 39, 3) := by decide +kernel
theorem dX6_cryingOf_15 : decode cX6_cryingOf 15 = .ok (.aload_n 0, 1) := by decide +kernel
theorem dX6_cryingOf_16 : decode cX6_cryingOf 16 = .ok (.getfield 58, 3) := by decide +kernel
theorem dX6_cryingOf_19 : decode cX6_cryingOf 19 = .ok (.iload_n 3, 1) := by decide +kernel
theorem dX6_cryingOf_20 : decode cX6_cryingOf 20 = .ok (.ishr, 1) := by decide +kernel
theorem dX6_cryingOf_21 : decode cX6_cryingOf 21 = .ok (.iconst 1, 1) := by decide +kernel
theorem dX6_cryingOf_22 : decode cX6_cryingOf 22 = .ok (.iand, 1) := by decide +kernel
theorem dX6_cryingOf_23 : decode cX6_cryingOf 23 = .ok (.ifCond .eq 22, 3) := by decide +kernel
theorem dX6_cryingOf_26 : decode cX6_cryingOf 26 = .ok (.aload_n 0, 1) := by decide +kernel
theorem dX6_cryingOf_27 : decode cX6_cryingOf 27 = .ok (.getfield 20, 3) := by decide +kernel
theorem dX6_cryingOf_30 : decode cX6_cryingOf 30 = .ok (.getfield 39, 3) := by decide +kernel
theorem dX6_cryingOf_33 : decode cX6_cryingOf 33 = .ok (.bipush 10, 2) := by decide +kernel
theorem dX6_cryingOf_35 : decode cX6_cryingOf 35 = .ok (.aaload, 1) := by decide +kernel
theorem dX6_cryingOf_36 : decode cX6_cryingOf 36 = .ok (.iload_n 3, 1) := by decide +kernel
theorem dX6_cryingOf_37 : decode cX6_cryingOf 37 = .ok (.iaload, 1) := by decide +kernel
theorem dX6_cryingOf_38 : decode cX6_cryingOf 38 = .ok (.iload_n 1, 1) := by decide +kernel
theorem dX6_cryingOf_39 : decode cX6_cryingOf 39 = .ok (.if_icmp .ne 6, 3) := by decide +kernel
theorem dX6_cryingOf_42 : decode cX6_cryingOf 42 = .ok (.iinc 2 1, 3) := by decide +kernel
theorem dX6_cryingOf_45 : decode cX6_cryingOf 45 = .ok (.iinc 3 1, 3) := by decide +kernel
theorem dX6_cryingOf_48 : decode cX6_cryingOf 48 = .ok (.goto (-44), 3) := by decide +kernel
theorem dX6_cryingOf_51 : decode cX6_cryingOf 51 = .ok (.iload_n 2, 1) := by decide +kernel
theorem dX6_cryingOf_52 : decode cX6_cryingOf 52 = .ok (.ireturn, 1) := by decide +kernel
theorem ok_yX6_cryingOf : yOk yX6_cryingOf 1 := ⟨by decide +kernel, by decide +kernel, by decide +kernel⟩
def fX6_cryingOf_4 (n : Nat) (st : St) : Nat → Int32 → Int32 → Int32 → Option (Int32)
  | 0, _, _, _ => none
  | k + 1, v1, v2, v3 => if gI st 1 3 ≤ v3 then (some v2) else (if ((gI st 24 2) >>> (v3 &&& 31)) &&& (1 : Int32) = 0 then (bnd (v3 + (1 : Int32)) (fun x3 => fX6_cryingOf_4 n st k v1 v2 x3)) else (gd (inB v3 13) (if gI st 13 v3.toNatClampNeg = v1 then (bnd (v2 + (1 : Int32)) (fun x9 => bnd (v3 + (1 : Int32)) (fun x11 => fX6_cryingOf_4 n st k v1 x9 x11))) else (bnd (v3 + (1 : Int32)) (fun x7 => fX6_cryingOf_4 n st k v1 v2 x7)))))
set_option maxHeartbeats 4000000 in
theorem tX6_cryingOf_4 {p : Program} {l : Launch} {e : Env} {s : State} {m : MethodId} {args : Array Value} {below : List Frame} {meth : Method} {c : Code} {X : WX} (C : Amb 65 X p s m args meth c cX6_cryingOf 4 RX6) (hr : meth.sig.returnType = some .int) {R : Int32} {n : Nat} {st : St} : ∀ (k : Nat) (v1 : Int32) (v2 : Int32) (v3 : Int32) (H : Heap) (locs : List Loc) (ls : Array Slot), Wd EC 65 X s.heap st H locs → lv_has ls 4 [(0, .ref (xq X 24)), (1, .int v1), (2, .int v2), (3, .int v3)] → fX6_cryingOf_4 n st k v1 v2 v3 = some R → W p l e { frames := 0, cells := 0, slots := 0, locals := 0 } s m args below meth c H locs 0 0 (QI EC 65 X R st below args s) (F0 m 4 ls []) := by
  obtain ⟨hx, hb, hml, hown, hts⟩ := id C.1
  intro k
  induction k with
  | zero => intro v1 v2 v3 H locs ls  hw hl hf; exact absurd (show none = some R from hf) (fun z => by cases z)
  | succ k ih =>
    intro v1 v2 v3 H locs ls  hw hl hf
    rw [fX6_cryingOf_4] at hf
    refine lv_iload_n hx hb dX6_cryingOf_4 rfl (lv_at hl 3 rfl) ?_
    refine lv_aload_n hx hb dX6_cryingOf_5 rfl (lv_at hl 0 rfl) ?_
    refine w_get (T := TX6) C hw (by decide) 4 kf_X6_20 (EC_24 X _ _) rfl inA6 (by decide) rfl dX6_cryingOf_6 ?_
    refine w_get (T := TX3) C hw (by decide) 3 kf_X6_64 (EC_1 X _ _) rfl inA3 (by decide) rfl dX6_cryingOf_9 ?_
    refine lv_icmp_ge (tgt := 51) hx hb dX6_cryingOf_12 (by decide) (fun c1 => ?_) (fun c1 => ?_)
    · replace hf := ite_t hf c1
      refine lv_iload_n hx hb dX6_cryingOf_51 rfl (lv_at hl 2 rfl) ?_
      exact w_iret C hw hr (Option.some.inj hf) rfl dX6_cryingOf_52
    · replace hf := ite_f hf c1
      refine lv_aload_n hx hb dX6_cryingOf_15 rfl (lv_at hl 0 rfl) ?_
      refine w_get (T := TX6) C hw (by decide) 2 kf_X6_58 (EC_24 X _ _) rfl inA6 (by decide) rfl dX6_cryingOf_16 ?_
      refine lv_iload_n hx hb dX6_cryingOf_19 rfl (lv_at hl 3 rfl) ?_
      refine lv_ishr hx hb dX6_cryingOf_20 ?_
      refine lv_iconst (v := 1) hx hb dX6_cryingOf_21 (by decide) ?_
      refine lv_iand hx hb dX6_cryingOf_22 ?_
      refine lv_if_eq (tgt := 45) hx hb dX6_cryingOf_23 (by decide) (fun c2 => ?_) (fun c2 => ?_)
      · replace hf := ite_t hf c2
        obtain ⟨x3, e4⟩ : ∃ z : Int32, z = v3 + (1 : Int32) := ⟨_, rfl⟩
        replace hf := bnd_nm hf e4
        refine lv_iinc (v := x3) (lv' := [(3, .int x3), (0, .ref (xq X 24)), (1, .int v1), (2, .int v2)]) hx hb dX6_cryingOf_45 hl (k := 3) rfl (by rw [e4]; rfl) (by decide) rfl (fun ls hl => ?_)
        refine lv_goto (tgt := 4) hx hb dX6_cryingOf_48 (by decide) ?_
        exact ih v1 v2 x3 _ _ _ hw (lv_sub hl [1, 2, 3, 0] rfl) hf
      · replace hf := ite_f hf c2
        refine lv_aload_n hx hb dX6_cryingOf_26 rfl (lv_at hl 0 rfl) ?_
        refine w_get (T := TX6) C hw (by decide) 4 kf_X6_20 (EC_24 X _ _) rfl inA6 (by decide) rfl dX6_cryingOf_27 ?_
        refine w_get (T := TX3) C hw (by decide) 0 kf_X6_39 (EC_1 X _ _) rfl inA3 (by decide) rfl dX6_cryingOf_30 ?_
        refine lv_bipush (v := 10) hx hb dX6_cryingOf_33 (by decide) ?_
        refine w_aald (k' := 13) C hw (by decide) (EC_2 X _ _) rfl rfl (by decide) rfl dX6_cryingOf_35 ?_
        refine lv_iload_n hx hb dX6_cryingOf_36 rfl (lv_at hl 3 rfl) ?_
        obtain ⟨h5, hf⟩ := gd_some hf
        refine w_iald C hw (by decide) (EC_13 X _ _) h5 rfl dX6_cryingOf_37 ?_
        refine lv_iload_n hx hb dX6_cryingOf_38 rfl (lv_at hl 1 rfl) ?_
        refine lv_icmp_ne (tgt := 45) hx hb dX6_cryingOf_39 (by decide) (fun c6 => ?_) (fun c6 => ?_)
        · replace hf := ite_f hf c6
          obtain ⟨x7, e8⟩ : ∃ z : Int32, z = v3 + (1 : Int32) := ⟨_, rfl⟩
          replace hf := bnd_nm hf e8
          refine lv_iinc (v := x7) (lv' := [(3, .int x7), (0, .ref (xq X 24)), (1, .int v1), (2, .int v2)]) hx hb dX6_cryingOf_45 hl (k := 3) rfl (by rw [e8]; rfl) (by decide) rfl (fun ls hl => ?_)
          refine lv_goto (tgt := 4) hx hb dX6_cryingOf_48 (by decide) ?_
          exact ih v1 v2 x7 _ _ _ hw (lv_sub hl [1, 2, 3, 0] rfl) hf
        · replace hf := ite_t hf c6
          obtain ⟨x9, e10⟩ : ∃ z : Int32, z = v2 + (1 : Int32) := ⟨_, rfl⟩
          replace hf := bnd_nm hf e10
          refine lv_iinc (v := x9) (lv' := [(2, .int x9), (0, .ref (xq X 24)), (1, .int v1), (3, .int v3)]) hx hb dX6_cryingOf_42 hl (k := 2) rfl (by rw [e10]; rfl) (by decide) rfl (fun ls hl => ?_)
          obtain ⟨x11, e12⟩ : ∃ z : Int32, z = v3 + (1 : Int32) := ⟨_, rfl⟩
          replace hf := bnd_nm hf e12
          refine lv_iinc (v := x11) (lv' := [(3, .int x11), (2, .int x9), (0, .ref (xq X 24)), (1, .int v1)]) hx hb dX6_cryingOf_45 hl (k := 3) rfl (by rw [e12]; rfl) (by decide) rfl (fun ls hl => ?_)
          refine lv_goto (tgt := 4) hx hb dX6_cryingOf_48 (by decide) ?_
          exact ih v1 x9 x11 _ _ _ hw (lv_sub hl [2, 3, 1, 0] rfl) hf
def fX6_cryingOf (n : Nat) (st : St) (a1 : Int32) : Option (Int32) := fX6_cryingOf_4 n st n a1 (0 : Int32) (0 : Int32)
set_option maxHeartbeats 4000000 in
theorem zX6_cryingOf (l : Launch) (X : WX) (n : Nat) (st : St) (a1 : Int32) (R : Int32) (hf : fX6_cryingOf n st a1 = some R) : CtI l yX6_cryingOf cX6_cryingOf 4 .int ({ frames := 0, cells := 0, slots := 0, locals := 0 }) EC 65 X [.ref (xq X 24), .int a1] st R st := by
  refine ct_in (own := RX6) (by decide +kernel) rfl (Nat.le_of_ble_eq_true rfl) (fun p e s m below meth c C hr hw ls hl => ?_)
  obtain ⟨hx, hb, hml, hown, hts⟩ := id C.1
  have hl : lv_has ls 4 [(0, .ref (xq X 24)), (1, .int a1)] := hl
  unfold fX6_cryingOf at hf
  refine lv_iconst (v := 0) hx hb dX6_cryingOf_0 (by decide) ?_
  refine lv_istore_n (lv' := [(2, .int (0 : Int32)), (0, .ref (xq X 24)), (1, .int a1)]) hx hb dX6_cryingOf_1 rfl hl (by decide) rfl (fun ls hl => ?_)
  refine lv_iconst (v := 0) hx hb dX6_cryingOf_2 (by decide) ?_
  refine lv_istore_n (lv' := [(3, .int (0 : Int32)), (2, .int (0 : Int32)), (0, .ref (xq X 24)), (1, .int a1)]) hx hb dX6_cryingOf_3 rfl hl (by decide) rfl (fun ls hl => ?_)
  exact tX6_cryingOf_4 C hr n a1 (0 : Int32) (0 : Int32) _ _ _ hw (lv_sub hl [2, 3, 1, 0] rfl) hf
theorem dX6_worthOf_0 : decode cX6_worthOf 0 = .ok (.aload_n 0, 1) := by decide +kernel
theorem dX6_worthOf_1 : decode cX6_worthOf 1 = .ok (.iload_n 1, 1) := by decide +kernel
theorem dX6_worthOf_2 : decode cX6_worthOf 2 = .ok (.invokevirtual 93, 3) := by decide +kernel
theorem dX6_worthOf_5 : decode cX6_worthOf 5 = .ok (.aload_n 0, 1) := by decide +kernel
theorem dX6_worthOf_6 : decode cX6_worthOf 6 = .ok (.iload_n 1, 1) := by decide +kernel
theorem dX6_worthOf_7 : decode cX6_worthOf 7 = .ok (.invokevirtual 96, 3) := by decide +kernel
theorem dX6_worthOf_10 : decode cX6_worthOf 10 = .ok (.isub, 1) := by decide +kernel
theorem dX6_worthOf_11 : decode cX6_worthOf 11 = .ok (.ireturn, 1) := by decide +kernel
theorem ok_yX6_worthOf : yOk yX6_worthOf 1 := ⟨by decide +kernel, by decide +kernel, by decide +kernel⟩
def fX6_worthOf (n : Nat) (st : St) (a1 : Int32) : Option (Int32) := (fX6_isOwed n st a1).bind (fun r1 => (fX6_owes n st a1).bind (fun r3 => some (r1 - r3)))
set_option maxHeartbeats 4000000 in
theorem zX6_worthOf (l : Launch) (X : WX) (n : Nat) (st : St) (a1 : Int32) (R : Int32) (hf : fX6_worthOf n st a1 = some R) : CtI l yX6_worthOf cX6_worthOf 2 .int ({ frames := 1, cells := 0, slots := 0, locals := 23 }) EC 65 X [.ref (xq X 24), .int a1] st R st := by
  refine ct_in (own := RX6) (by decide +kernel) rfl (Nat.le_of_ble_eq_true rfl) (fun p e s m below meth c C hr hw ls hl => ?_)
  obtain ⟨hx, hb, hml, hown, hts⟩ := id C.1
  have hl : lv_has ls 2 [(0, .ref (xq X 24)), (1, .int a1)] := hl
  unfold fX6_worthOf at hf
  refine lv_aload_n hx hb dX6_worthOf_0 rfl (lv_at hl 0 rfl) ?_
  refine lv_iload_n hx hb dX6_worthOf_1 rfl (lv_at hl 1 rfl) ?_
  obtain ⟨r1, k2, hf⟩ := bd_some hf
  refine w_goI hw (w_runV (rest := []) C hw (zX6_isOwed _ _ n st a1 r1 k2) (by decide) (EC_24 X _ _) rfl km_X6_93 ki_yX6_isOwed kv_X6_isOwed kz_X6 kc_X6_isOwed rfl ok_yX6_isOwed ⟨Nat.le_of_ble_eq_true rfl, Nat.le_of_ble_eq_true rfl⟩ rfl rfl rfl rfl hl.1 (Nat.le_of_ble_eq_true rfl) dX6_worthOf_2 ⟨Nat.zero_le _, Nat.zero_le _⟩) (fun H locs hw => ?_)
  refine lv_aload_n hx hb dX6_worthOf_5 rfl (lv_at hl 0 rfl) ?_
  refine lv_iload_n hx hb dX6_worthOf_6 rfl (lv_at hl 1 rfl) ?_
  obtain ⟨r3, k4, hf⟩ := bd_some hf
  refine w_goI hw (w_runV (rest := [.int r1]) C hw (zX6_owes _ _ n st a1 r3 k4) (by decide) (EC_24 X _ _) rfl km_X6_96 ki_yX6_owes kv_X6_owes kz_X6 kc_X6_owes rfl ok_yX6_owes ⟨Nat.le_of_ble_eq_true rfl, Nat.le_of_ble_eq_true rfl⟩ rfl rfl rfl rfl hl.1 (Nat.le_of_ble_eq_true rfl) dX6_worthOf_7 ⟨Nat.zero_le _, Nat.zero_le _⟩) (fun H locs hw => ?_)
  refine lv_isub hx hb dX6_worthOf_10 ?_
  exact w_iret C hw hr (Option.some.inj hf) rfl dX6_worthOf_11
theorem dX6_clearRing_0 : decode cX6_clearRing 0 = .ok (.aload_n 0, 1) := by decide +kernel
theorem dX6_clearRing_1 : decode cX6_clearRing 1 = .ok (.getfield 9, 3) := by decide +kernel
theorem dX6_clearRing_4 : decode cX6_clearRing 4 = .ok (.iload_n 1, 1) := by decide +kernel
theorem dX6_clearRing_5 : decode cX6_clearRing 5 = .ok (.iaload, 1) := by decide +kernel
theorem dX6_clearRing_6 : decode cX6_clearRing 6 = .ok (.aload_n 0, 1) := by decide +kernel
theorem dX6_clearRing_7 : decode cX6_clearRing 7 = .ok (.getfield 9, 3) := by decide +kernel
theorem dX6_clearRing_10 : decode cX6_clearRing 10 = .ok (.iload_n 2, 1) := by decide +kernel
theorem dX6_clearRing_11 : decode cX6_clearRing 11 = .ok (.iaload, 1) := by decide +kernel
theorem dX6_clearRing_12 : decode cX6_clearRing 12 = .ok (.aload_n 0, 1) := by decide +kernel
theorem dX6_clearRing_13 : decode cX6_clearRing 13 = .ok (.getfield 9, 3) := by decide +kernel
theorem dX6_clearRing_16 : decode cX6_clearRing 16 = .ok (.iload_n 3, 1) := by decide +kernel
theorem dX6_clearRing_17 : decode cX6_clearRing 17 = .ok (.iaload, 1) := by decide +kernel
theorem dX6_clearRing_18 : decode cX6_clearRing 18 = .ok (.invokestatic 105, 3) := by decide +kernel
theorem dX6_clearRing_21 : decode cX6_clearRing 21 = .ok (.invokestatic 105, 3) := by decide +kernel
theorem dX6_clearRing_24 : decode cX6_clearRing 24 = .ok (.istore 4, 2) := by decide +kernel
theorem dX6_clearRing_26 : decode cX6_clearRing 26 = .ok (.iload 4, 2) := by decide +kernel
theorem dX6_clearRing_28 : decode cX6_clearRing 28 = .ok (.ifCond .le 36, 3) := by decide +kernel
theorem dX6_clearRing_31 : decode cX6_clearRing 31 = .ok (.aload_n 0, 1) := by decide +kernel
theorem dX6_clearRing_32 : decode cX6_clearRing 32 = .ok (.getfield 9, 3) := by decide +kernel
theorem dX6_clearRing_35 : decode cX6_clearRing 35 = .ok (.iload_n 1, 1) := by decide +kernel
theorem dX6_clearRing_36 : decode cX6_clearRing 36 = .ok (.dup2, 1) := by decide +kernel
theorem dX6_clearRing_37 : decode cX6_clearRing 37 = .ok (.iaload, 1) := by decide +kernel
theorem dX6_clearRing_38 : decode cX6_clearRing 38 = .ok (.iload 4, 2) := by decide +kernel
theorem dX6_clearRing_40 : decode cX6_clearRing 40 = .ok (.isub, 1) := by decide +kernel
theorem dX6_clearRing_41 : decode cX6_clearRing 41 = .ok (.iastore, 1) := by decide +kernel
theorem dX6_clearRing_42 : decode cX6_clearRing 42 = .ok (.aload_n 0, 1) := by decide +kernel
theorem dX6_clearRing_43 : decode cX6_clearRing 43 = .ok (.getfield 9, 3) := by decide +kernel
theorem dX6_clearRing_46 : decode cX6_clearRing 46 = .ok (.iload_n 2, 1) := by decide +kernel
theorem dX6_clearRing_47 : decode cX6_clearRing 47 = .ok (.dup2, 1) := by decide +kernel
theorem dX6_clearRing_48 : decode cX6_clearRing 48 = .ok (.iaload, 1) := by decide +kernel
theorem dX6_clearRing_49 : decode cX6_clearRing 49 = .ok (.iload 4, 2) := by decide +kernel
theorem dX6_clearRing_51 : decode cX6_clearRing 51 = .ok (.isub, 1) := by decide +kernel
theorem dX6_clearRing_52 : decode cX6_clearRing 52 = .ok (.iastore, 1) := by decide +kernel
theorem dX6_clearRing_53 : decode cX6_clearRing 53 = .ok (.aload_n 0, 1) := by decide +kernel
theorem dX6_clearRing_54 : decode cX6_clearRing 54 = .ok (.getfield 9, 3) := by decide +kernel
theorem dX6_clearRing_57 : decode cX6_clearRing 57 = .ok (.iload_n 3, 1) := by decide +kernel
theorem dX6_clearRing_58 : decode cX6_clearRing 58 = .ok (.dup2, 1) := by decide +kernel
theorem dX6_clearRing_59 : decode cX6_clearRing 59 = .ok (.iaload, 1) := by decide +kernel
theorem dX6_clearRing_60 : decode cX6_clearRing 60 = .ok (.iload 4, 2) := by decide +kernel
theorem dX6_clearRing_62 : decode cX6_clearRing 62 = .ok (.isub, 1) := by decide +kernel
theorem dX6_clearRing_63 : decode cX6_clearRing 63 = .ok (.iastore, 1) := by decide +kernel
theorem dX6_clearRing_64 : decode cX6_clearRing 64 = .ok (.return_, 1) := by decide +kernel
theorem ok_yX6_clearRing : yOk yX6_clearRing 3 := ⟨by decide +kernel, by decide +kernel, by decide +kernel⟩
def fX6_clearRing (st : St) (a1 : Int32) (a2 : Int32) (a3 : Int32) : Option (St) := gd (inB a1 36) (gd (inB a2 36) (gd (inB a3 36) (bnd (mnI (gI st 25 a1.toNatClampNeg) (mnI (gI st 25 a2.toNatClampNeg) (gI st 25 a3.toNatClampNeg))) (fun x4 => if x4 ≤ 0 then (some st) else (gd (inB a1 36) (gd (inB a1 36) (bnd (sI st 25 a1.toNatClampNeg ((gI st 25 a1.toNatClampNeg) - x4)) (fun st9 => gd (inB a2 36) (gd (inB a2 36) (bnd (sI st9 25 a2.toNatClampNeg ((gI st9 25 a2.toNatClampNeg) - x4)) (fun st13 => gd (inB a3 36) (gd (inB a3 36) (bnd (sI st13 25 a3.toNatClampNeg ((gI st13 25 a3.toNatClampNeg) - x4)) (fun st17 => some st17))))))))))))))
set_option maxHeartbeats 4000000 in
theorem zX6_clearRing (l : Launch) (X : WX) (st : St) (a1 : Int32) (a2 : Int32) (a3 : Int32) (R : St) (hf : fX6_clearRing st a1 a2 a3 = some R) : CtV l yX6_clearRing cX6_clearRing 5 ({ frames := 1, cells := 0, slots := 0, locals := 21 }) EC 65 X [.ref (xq X 24), .int a1, .int a2, .int a3] st R := by
  refine ct_in (own := RX6) (by decide +kernel) rfl (Nat.le_of_ble_eq_true rfl) (fun p e s m below meth c C hr hw ls hl => ?_)
  obtain ⟨hx, hb, hml, hown, hts⟩ := id C.1
  have hl : lv_has ls 5 [(0, .ref (xq X 24)), (1, .int a1), (2, .int a2), (3, .int a3)] := hl
  unfold fX6_clearRing at hf
  refine lv_aload_n hx hb dX6_clearRing_0 rfl (lv_at hl 0 rfl) ?_
  refine w_get (T := TX6) C hw (by decide) 0 kf_X6_9 (EC_24 X _ _) rfl inA6 (by decide) rfl dX6_clearRing_1 ?_
  refine lv_iload_n hx hb dX6_clearRing_4 rfl (lv_at hl 1 rfl) ?_
  obtain ⟨h1, hf⟩ := gd_some hf
  refine w_iald C hw (by decide) (EC_25 X _ _) h1 rfl dX6_clearRing_5 ?_
  refine lv_aload_n hx hb dX6_clearRing_6 rfl (lv_at hl 0 rfl) ?_
  refine w_get (T := TX6) C hw (by decide) 0 kf_X6_9 (EC_24 X _ _) rfl inA6 (by decide) rfl dX6_clearRing_7 ?_
  refine lv_iload_n hx hb dX6_clearRing_10 rfl (lv_at hl 2 rfl) ?_
  obtain ⟨h2, hf⟩ := gd_some hf
  refine w_iald C hw (by decide) (EC_25 X _ _) h2 rfl dX6_clearRing_11 ?_
  refine lv_aload_n hx hb dX6_clearRing_12 rfl (lv_at hl 0 rfl) ?_
  refine w_get (T := TX6) C hw (by decide) 0 kf_X6_9 (EC_24 X _ _) rfl inA6 (by decide) rfl dX6_clearRing_13 ?_
  refine lv_iload_n hx hb dX6_clearRing_16 rfl (lv_at hl 3 rfl) ?_
  obtain ⟨h3, hf⟩ := gd_some hf
  refine w_iald C hw (by decide) (EC_25 X _ _) h3 rfl dX6_clearRing_17 ?_
  refine w_min C hl.1 km_X6_105 (Nat.le_of_ble_eq_true rfl) (Nat.le_of_ble_eq_true rfl) (Nat.zero_le _) (Nat.zero_le _) dX6_clearRing_18 ?_
  refine w_min C hl.1 km_X6_105 (Nat.le_of_ble_eq_true rfl) (Nat.le_of_ble_eq_true rfl) (Nat.zero_le _) (Nat.zero_le _) dX6_clearRing_21 ?_
  refine lv_topi (fun x4 e5 => ?_)
  replace hf := bnd_nm hf e5
  refine lv_istore (lv' := [(4, .int x4), (0, .ref (xq X 24)), (1, .int a1), (2, .int a2), (3, .int a3)]) hx hb dX6_clearRing_24 hl (by decide) rfl (fun ls hl => ?_)
  refine lv_iload hx hb dX6_clearRing_26 (lv_at hl 0 rfl) ?_
  refine lv_if_le (tgt := 64) hx hb dX6_clearRing_28 (by decide) (fun c6 => ?_) (fun c6 => ?_)
  · replace hf := ite_t hf c6
    exact w_vret C hw hr (Option.some.inj hf) dX6_clearRing_64
  · replace hf := ite_f hf c6
    refine lv_aload_n hx hb dX6_clearRing_31 rfl (lv_at hl 1 rfl) ?_
    refine w_get (T := TX6) C hw (by decide) 0 kf_X6_9 (EC_24 X _ _) rfl inA6 (by decide) rfl dX6_clearRing_32 ?_
    refine lv_iload_n hx hb dX6_clearRing_35 rfl (lv_at hl 2 rfl) ?_
    refine lv_dup2_11 hx hb dX6_clearRing_36 rfl rfl ?_
    obtain ⟨h7, hf⟩ := gd_some hf
    refine w_iald C hw (by decide) (EC_25 X _ _) h7 rfl dX6_clearRing_37 ?_
    refine lv_iload hx hb dX6_clearRing_38 (lv_at hl 0 rfl) ?_
    refine lv_isub hx hb dX6_clearRing_40 ?_
    obtain ⟨h8, hf⟩ := gd_some hf
    obtain ⟨st9, es10⟩ : ∃ z : St, z = sI st 25 a1.toNatClampNeg ((gI st 25 a1.toNatClampNeg) - x4) := ⟨_, rfl⟩
    replace hf := bnd_nm hf es10
    refine w_iast C hw (by decide) (fun f9 => EC_25 X f9 _) h8 rfl dX6_clearRing_41 (fun H locs hw => ?_)
    rw [← es10] at hw
    refine lv_aload_n hx hb dX6_clearRing_42 rfl (lv_at hl 1 rfl) ?_
    refine w_get (T := TX6) C hw (by decide) 0 kf_X6_9 (EC_24 X _ _) rfl inA6 (by decide) rfl dX6_clearRing_43 ?_
    refine lv_iload_n hx hb dX6_clearRing_46 rfl (lv_at hl 3 rfl) ?_
    refine lv_dup2_11 hx hb dX6_clearRing_47 rfl rfl ?_
    obtain ⟨h11, hf⟩ := gd_some hf
    refine w_iald C hw (by decide) (EC_25 X _ _) h11 rfl dX6_clearRing_48 ?_
    refine lv_iload hx hb dX6_clearRing_49 (lv_at hl 0 rfl) ?_
    refine lv_isub hx hb dX6_clearRing_51 ?_
    obtain ⟨h12, hf⟩ := gd_some hf
    obtain ⟨st13, es14⟩ : ∃ z : St, z = sI st9 25 a2.toNatClampNeg ((gI st9 25 a2.toNatClampNeg) - x4) := ⟨_, rfl⟩
    replace hf := bnd_nm hf es14
    refine w_iast C hw (by decide) (fun f9 => EC_25 X f9 _) h12 rfl dX6_clearRing_52 (fun H locs hw => ?_)
    rw [← es14] at hw
    refine lv_aload_n hx hb dX6_clearRing_53 rfl (lv_at hl 1 rfl) ?_
    refine w_get (T := TX6) C hw (by decide) 0 kf_X6_9 (EC_24 X _ _) rfl inA6 (by decide) rfl dX6_clearRing_54 ?_
    refine lv_iload_n hx hb dX6_clearRing_57 rfl (lv_at hl 4 rfl) ?_
    refine lv_dup2_11 hx hb dX6_clearRing_58 rfl rfl ?_
    obtain ⟨h15, hf⟩ := gd_some hf
    refine w_iald C hw (by decide) (EC_25 X _ _) h15 rfl dX6_clearRing_59 ?_
    refine lv_iload hx hb dX6_clearRing_60 (lv_at hl 0 rfl) ?_
    refine lv_isub hx hb dX6_clearRing_62 ?_
    obtain ⟨h16, hf⟩ := gd_some hf
    obtain ⟨st17, es18⟩ : ∃ z : St, z = sI st13 25 a3.toNatClampNeg ((gI st13 25 a3.toNatClampNeg) - x4) := ⟨_, rfl⟩
    replace hf := bnd_nm hf es18
    refine w_iast C hw (by decide) (fun f9 => EC_25 X f9 _) h16 rfl dX6_clearRing_63 (fun H locs hw => ?_)
    rw [← es18] at hw
    exact w_vret C hw hr (Option.some.inj hf) dX6_clearRing_64
theorem dX6_clearRings_0 : decode cX6_clearRings 0 = .ok (.iconst 0, 1) := by decide +kernel
theorem dX6_clearRings_1 : decode cX6_clearRings 1 = .ok (.istore_n 1, 1) := by decide +kernel
theorem dX6_clearRings_2 : decode cX6_clearRings 2 = .ok (.iload_n 1, 1) := by decide +kernel
theorem dX6_clearRings_3 : decode cX6_clearRings 3 = .ok (.bipush 6, 2) := by decide +kernel
theorem dX6_clearRings_5 : decode cX6_clearRings 5 = .ok (.if_icmp .ge 59, 3) := by decide +kernel
theorem dX6_clearRings_8 : decode cX6_clearRings 8 = .ok (.iconst 0, 1) := by decide +kernel
theorem dX6_clearRings_9 : decode cX6_clearRings 9 = .ok (.istore_n 2, 1) := by decide +kernel
theorem dX6_clearRings_10 : decode cX6_clearRings 10 = .ok (.iload_n 2, 1) := by decide +kernel
theorem dX6_clearRings_11 : decode cX6_clearRings 11 = .ok (.bipush 6, 2) := by decide +kernel
theorem dX6_clearRings_13 : decode cX6_clearRings 13 = .ok (.if_icmp .ge 45, 3) := by decide +kernel
theorem dX6_clearRings_16 : decode cX6_clearRings 16 = .ok (.iconst 0, 1) := by decide +kernel
theorem dX6_clearRings_17 : decode cX6_clearRings 17 = .ok (.istore_n 3, 1) := by decide +kernel
theorem dX6_clearRings_18 : decode cX6_clearRings 18 = .ok (.iload_n 3, 1) := by decide +kernel
theorem dX6_clearRings_19 : decode cX6_clearRings 19 = .ok (.bipush 6, 2) := by decide +kernel
theorem dX6_clearRings_21 : decode cX6_clearRings 21 = .ok (.if_icmp .ge 31, 3) := by decide +kernel
theorem dX6_clearRings_24 : decode cX6_clearRings 24 = .ok (.aload_n 0, 1) := by decide +kernel
theorem dX6_clearRings_25 : decode cX6_clearRings 25 = .ok (.bipush 6, 2) := by decide +kernel
theorem dX6_clearRings_27 : decode cX6_clearRings 27 = .ok (.iload_n 1, 1) := by decide +kernel
theorem dX6_clearRings_28 : decode cX6_clearRings 28 = .ok (.imul, 1) := by decide +kernel
theorem dX6_clearRings_29 : decode cX6_clearRings 29 = .ok (.iload_n 2, 1) := by decide +kernel
theorem dX6_clearRings_30 : decode cX6_clearRings 30 = .ok (.iadd, 1) := by decide +kernel
theorem dX6_clearRings_31 : decode cX6_clearRings 31 = .ok (.bipush 6, 2) := by decide +kernel
theorem dX6_clearRings_33 : decode cX6_clearRings 33 = .ok (.iload_n 2, 1) := by decide +kernel
theorem dX6_clearRings_34 : decode cX6_clearRings 34 = .ok (.imul, 1) := by decide +kernel
theorem dX6_clearRings_35 : decode cX6_clearRings 35 = .ok (.iload_n 3, 1) := by decide +kernel
theorem dX6_clearRings_36 : decode cX6_clearRings 36 = .ok (.iadd, 1) := by decide +kernel
theorem dX6_clearRings_37 : decode cX6_clearRings 37 = .ok (.bipush 6, 2) := by decide +kernel
theorem dX6_clearRings_39 : decode cX6_clearRings 39 = .ok (.iload_n 3, 1) := by decide +kernel
theorem dX6_clearRings_40 : decode cX6_clearRings 40 = .ok (.imul, 1) := by decide +kernel
theorem dX6_clearRings_41 : decode cX6_clearRings 41 = .ok (.iload_n 1, 1) := by decide +kernel
theorem dX6_clearRings_42 : decode cX6_clearRings 42 = .ok (.iadd, 1) := by decide +kernel
theorem dX6_clearRings_43 : decode cX6_clearRings 43 = .ok (.invokevirtual 102, 3) := by decide +kernel
theorem dX6_clearRings_46 : decode cX6_clearRings 46 = .ok (.iinc 3 1, 3) := by decide +kernel
theorem dX6_clearRings_49 : decode cX6_clearRings 49 = .ok (.goto (-31), 3) := by decide +kernel
theorem dX6_clearRings_52 : decode cX6_clearRings 52 = .ok (.iinc 2 1, 3) := by decide +kernel
theorem dX6_clearRings_55 : decode cX6_clearRings 55 = .ok (.goto (-45), 3) := by decide +kernel
theorem dX6_clearRings_58 : decode cX6_clearRings 58 = .ok (.iinc 1 1, 3) := by decide +kernel
theorem dX6_clearRings_61 : decode cX6_clearRings 61 = .ok (.goto (-59), 3) := by decide +kernel
theorem dX6_clearRings_64 : decode cX6_clearRings 64 = .ok (.return_, 1) := by decide +kernel
theorem ok_yX6_clearRings : yOk yX6_clearRings 0 := ⟨by decide +kernel, by decide +kernel, by decide +kernel⟩
def fX6_clearRings_18 (kB2 : St → Int32 → Option (St)) (kB10 : St → Int32 → Int32 → Option (St)) (n : Nat) : Nat → St → Int32 → Int32 → Int32 → Option (St)
  | 0, _, _, _, _ => none
  | k + 1, st, v1, v2, v3 => if (6 : Int32) ≤ v3 then (bnd (v2 + (1 : Int32)) (fun x6 => kB10 st v1 x6)) else ((fX6_clearRing st (((6 : Int32) * v1) + v2) (((6 : Int32) * v2) + v3) (((6 : Int32) * v3) + v1)).bind (fun r8 => bnd (v3 + (1 : Int32)) (fun x10 => fX6_clearRings_18 kB2 kB10 n k r8 v1 v2 x10)))
set_option maxHeartbeats 4000000 in
theorem tX6_clearRings_18 {p : Program} {l : Launch} {e : Env} {s : State} {m : MethodId} {args : Array Value} {below : List Frame} {meth : Method} {c : Code} {X : WX} (C : Amb 65 X p s m args meth c cX6_clearRings 4 RX6) (hr : meth.sig.returnType = none) {R : St} {n : Nat} {kB2 : St → Int32 → Option (St)} {kB10 : St → Int32 → Int32 → Option (St)} (hB2 : ∀ (st : St) (v1 : Int32) (H : Heap) (locs : List Loc) (ls : Array Slot), Wd EC 65 X s.heap st H locs → lv_has ls 4 [(0, .ref (xq X 24)), (1, .int v1)] → kB2 st v1 = some R → W p l e { frames := 2, cells := 0, slots := 0, locals := 45 } s m args below meth c H locs 0 0 (QV EC 65 X R below args s) (F0 m 2 ls [])) (hB10 : ∀ (st : St) (v1 : Int32) (v2 : Int32) (H : Heap) (locs : List Loc) (ls : Array Slot), Wd EC 65 X s.heap st H locs → lv_has ls 4 [(0, .ref (xq X 24)), (1, .int v1), (2, .int v2)] → kB10 st v1 v2 = some R → W p l e { frames := 2, cells := 0, slots := 0, locals := 45 } s m args below meth c H locs 0 0 (QV EC 65 X R below args s) (F0 m 10 ls [])) : ∀ (k : Nat) (st : St) (v1 : Int32) (v2 : Int32) (v3 : Int32) (H : Heap) (locs : List Loc) (ls : Array Slot), Wd EC 65 X s.heap st H locs → lv_has ls 4 [(0, .ref (xq X 24)), (1, .int v1), (2, .int v2), (3, .int v3)] → fX6_clearRings_18 kB2 kB10 n k st v1 v2 v3 = some R → W p l e { frames := 2, cells := 0, slots := 0, locals := 45 } s m args below meth c H locs 0 0 (QV EC 65 X R below args s) (F0 m 18 ls []) := by
  obtain ⟨hx, hb, hml, hown, hts⟩ := id C.1
  intro k
  induction k with
  | zero => intro st v1 v2 v3 H locs ls  hw hl hf; exact absurd (show none = some R from hf) (fun z => by cases z)
  | succ k ih =>
    intro st v1 v2 v3 H locs ls  hw hl hf
    rw [fX6_clearRings_18] at hf
    refine lv_iload_n hx hb dX6_clearRings_18 rfl (lv_at hl 3 rfl) ?_
    refine lv_bipush (v := 6) hx hb dX6_clearRings_19 (by decide) ?_
    refine lv_icmp_ge (tgt := 52) hx hb dX6_clearRings_21 (by decide) (fun c5 => ?_) (fun c5 => ?_)
    · replace hf := ite_t hf c5
      obtain ⟨x6, e7⟩ : ∃ z : Int32, z = v2 + (1 : Int32) := ⟨_, rfl⟩
      replace hf := bnd_nm hf e7
      refine lv_iinc (v := x6) (lv' := [(2, .int x6), (0, .ref (xq X 24)), (1, .int v1), (3, .int v3)]) hx hb dX6_clearRings_52 hl (k := 2) rfl (by rw [e7]; rfl) (by decide) rfl (fun ls hl => ?_)
      refine lv_goto (tgt := 10) hx hb dX6_clearRings_55 (by decide) ?_
      exact hB10 st v1 x6 _ _ _ hw (lv_sub hl [1, 2, 0] rfl) hf
    · replace hf := ite_f hf c5
      refine lv_aload_n hx hb dX6_clearRings_24 rfl (lv_at hl 0 rfl) ?_
      refine lv_bipush (v := 6) hx hb dX6_clearRings_25 (by decide) ?_
      refine lv_iload_n hx hb dX6_clearRings_27 rfl (lv_at hl 1 rfl) ?_
      refine lv_imul hx hb dX6_clearRings_28 ?_
      refine lv_iload_n hx hb dX6_clearRings_29 rfl (lv_at hl 2 rfl) ?_
      refine lv_iadd hx hb dX6_clearRings_30 ?_
      refine lv_bipush (v := 6) hx hb dX6_clearRings_31 (by decide) ?_
      refine lv_iload_n hx hb dX6_clearRings_33 rfl (lv_at hl 2 rfl) ?_
      refine lv_imul hx hb dX6_clearRings_34 ?_
      refine lv_iload_n hx hb dX6_clearRings_35 rfl (lv_at hl 3 rfl) ?_
      refine lv_iadd hx hb dX6_clearRings_36 ?_
      refine lv_bipush (v := 6) hx hb dX6_clearRings_37 (by decide) ?_
      refine lv_iload_n hx hb dX6_clearRings_39 rfl (lv_at hl 3 rfl) ?_
      refine lv_imul hx hb dX6_clearRings_40 ?_
      refine lv_iload_n hx hb dX6_clearRings_41 rfl (lv_at hl 1 rfl) ?_
      refine lv_iadd hx hb dX6_clearRings_42 ?_
      obtain ⟨r8, k9, hf⟩ := bd_some hf
      refine w_goV hw (w_runV (rest := []) C hw (zX6_clearRing _ _ st (((6 : Int32) * v1) + v2) (((6 : Int32) * v2) + v3) (((6 : Int32) * v3) + v1) r8 k9) (by decide) (EC_24 X _ _) rfl km_X6_102 ki_yX6_clearRing kv_X6_clearRing kz_X6 kc_X6_clearRing rfl ok_yX6_clearRing ⟨Nat.le_of_ble_eq_true rfl, Nat.le_of_ble_eq_true rfl⟩ rfl rfl rfl rfl hl.1 (Nat.le_of_ble_eq_true rfl) dX6_clearRings_43 ⟨Nat.zero_le _, Nat.zero_le _⟩) (fun H locs hw => ?_)
      obtain ⟨x10, e11⟩ : ∃ z : Int32, z = v3 + (1 : Int32) := ⟨_, rfl⟩
      replace hf := bnd_nm hf e11
      refine lv_iinc (v := x10) (lv' := [(3, .int x10), (0, .ref (xq X 24)), (1, .int v1), (2, .int v2)]) hx hb dX6_clearRings_46 hl (k := 3) rfl (by rw [e11]; rfl) (by decide) rfl (fun ls hl => ?_)
      refine lv_goto (tgt := 18) hx hb dX6_clearRings_49 (by decide) ?_
      exact ih r8 v1 v2 x10 _ _ _ hw (lv_sub hl [1, 2, 3, 0] rfl) hf
def fX6_clearRings_10 (kB2 : St → Int32 → Option (St)) (n : Nat) : Nat → St → Int32 → Int32 → Option (St)
  | 0, _, _, _ => none
  | k + 1, st, v1, v2 => if (6 : Int32) ≤ v2 then (bnd (v1 + (1 : Int32)) (fun x3 => kB2 st x3)) else (fX6_clearRings_18 kB2 (fX6_clearRings_10 kB2 n k) n n st v1 v2 (0 : Int32))
set_option maxHeartbeats 4000000 in
theorem tX6_clearRings_10 {p : Program} {l : Launch} {e : Env} {s : State} {m : MethodId} {args : Array Value} {below : List Frame} {meth : Method} {c : Code} {X : WX} (C : Amb 65 X p s m args meth c cX6_clearRings 4 RX6) (hr : meth.sig.returnType = none) {R : St} {n : Nat} {kB2 : St → Int32 → Option (St)} (hB2 : ∀ (st : St) (v1 : Int32) (H : Heap) (locs : List Loc) (ls : Array Slot), Wd EC 65 X s.heap st H locs → lv_has ls 4 [(0, .ref (xq X 24)), (1, .int v1)] → kB2 st v1 = some R → W p l e { frames := 2, cells := 0, slots := 0, locals := 45 } s m args below meth c H locs 0 0 (QV EC 65 X R below args s) (F0 m 2 ls [])) : ∀ (k : Nat) (st : St) (v1 : Int32) (v2 : Int32) (H : Heap) (locs : List Loc) (ls : Array Slot), Wd EC 65 X s.heap st H locs → lv_has ls 4 [(0, .ref (xq X 24)), (1, .int v1), (2, .int v2)] → fX6_clearRings_10 kB2 n k st v1 v2 = some R → W p l e { frames := 2, cells := 0, slots := 0, locals := 45 } s m args below meth c H locs 0 0 (QV EC 65 X R below args s) (F0 m 10 ls []) := by
  obtain ⟨hx, hb, hml, hown, hts⟩ := id C.1
  intro k
  induction k with
  | zero => intro st v1 v2 H locs ls  hw hl hf; exact absurd (show none = some R from hf) (fun z => by cases z)
  | succ k ih =>
    intro st v1 v2 H locs ls  hw hl hf
    rw [fX6_clearRings_10] at hf
    refine lv_iload_n hx hb dX6_clearRings_10 rfl (lv_at hl 2 rfl) ?_
    refine lv_bipush (v := 6) hx hb dX6_clearRings_11 (by decide) ?_
    refine lv_icmp_ge (tgt := 58) hx hb dX6_clearRings_13 (by decide) (fun c2 => ?_) (fun c2 => ?_)
    · replace hf := ite_t hf c2
      obtain ⟨x3, e4⟩ : ∃ z : Int32, z = v1 + (1 : Int32) := ⟨_, rfl⟩
      replace hf := bnd_nm hf e4
      refine lv_iinc (v := x3) (lv' := [(1, .int x3), (0, .ref (xq X 24)), (2, .int v2)]) hx hb dX6_clearRings_58 hl (k := 1) rfl (by rw [e4]; rfl) (by decide) rfl (fun ls hl => ?_)
      refine lv_goto (tgt := 2) hx hb dX6_clearRings_61 (by decide) ?_
      exact hB2 st x3 _ _ _ hw (lv_sub hl [1, 0] rfl) hf
    · replace hf := ite_f hf c2
      refine lv_iconst (v := 0) hx hb dX6_clearRings_16 (by decide) ?_
      refine lv_istore_n (lv' := [(3, .int (0 : Int32)), (0, .ref (xq X 24)), (1, .int v1), (2, .int v2)]) hx hb dX6_clearRings_17 rfl hl (by decide) rfl (fun ls hl => ?_)
      exact tX6_clearRings_18 C hr hB2 ih n st v1 v2 (0 : Int32) _ _ _ hw (lv_sub hl [1, 2, 3, 0] rfl) hf
def fX6_clearRings_2 (n : Nat) : Nat → St → Int32 → Option (St)
  | 0, _, _ => none
  | k + 1, st, v1 => if (6 : Int32) ≤ v1 then (some st) else (fX6_clearRings_10 (fX6_clearRings_2 n k) n n st v1 (0 : Int32))
set_option maxHeartbeats 4000000 in
theorem tX6_clearRings_2 {p : Program} {l : Launch} {e : Env} {s : State} {m : MethodId} {args : Array Value} {below : List Frame} {meth : Method} {c : Code} {X : WX} (C : Amb 65 X p s m args meth c cX6_clearRings 4 RX6) (hr : meth.sig.returnType = none) {R : St} {n : Nat} : ∀ (k : Nat) (st : St) (v1 : Int32) (H : Heap) (locs : List Loc) (ls : Array Slot), Wd EC 65 X s.heap st H locs → lv_has ls 4 [(0, .ref (xq X 24)), (1, .int v1)] → fX6_clearRings_2 n k st v1 = some R → W p l e { frames := 2, cells := 0, slots := 0, locals := 45 } s m args below meth c H locs 0 0 (QV EC 65 X R below args s) (F0 m 2 ls []) := by
  obtain ⟨hx, hb, hml, hown, hts⟩ := id C.1
  intro k
  induction k with
  | zero => intro st v1 H locs ls  hw hl hf; exact absurd (show none = some R from hf) (fun z => by cases z)
  | succ k ih =>
    intro st v1 H locs ls  hw hl hf
    rw [fX6_clearRings_2] at hf
    refine lv_iload_n hx hb dX6_clearRings_2 rfl (lv_at hl 1 rfl) ?_
    refine lv_bipush (v := 6) hx hb dX6_clearRings_3 (by decide) ?_
    refine lv_icmp_ge (tgt := 64) hx hb dX6_clearRings_5 (by decide) (fun c1 => ?_) (fun c1 => ?_)
    · replace hf := ite_t hf c1
      exact w_vret C hw hr (Option.some.inj hf) dX6_clearRings_64
    · replace hf := ite_f hf c1
      refine lv_iconst (v := 0) hx hb dX6_clearRings_8 (by decide) ?_
      refine lv_istore_n (lv' := [(2, .int (0 : Int32)), (0, .ref (xq X 24)), (1, .int v1)]) hx hb dX6_clearRings_9 rfl hl (by decide) rfl (fun ls hl => ?_)
      exact tX6_clearRings_10 C hr ih n st v1 (0 : Int32) _ _ _ hw (lv_sub hl [1, 2, 0] rfl) hf
def fX6_clearRings (n : Nat) (st : St) : Option (St) := fX6_clearRings_2 n n st (0 : Int32)
set_option maxHeartbeats 4000000 in
theorem zX6_clearRings (l : Launch) (X : WX) (n : Nat) (st : St)  (R : St) (hf : fX6_clearRings n st = some R) : CtV l yX6_clearRings cX6_clearRings 4 ({ frames := 2, cells := 0, slots := 0, locals := 45 }) EC 65 X [.ref (xq X 24)] st R := by
  refine ct_in (own := RX6) (by decide +kernel) rfl (Nat.le_of_ble_eq_true rfl) (fun p e s m below meth c C hr hw ls hl => ?_)
  obtain ⟨hx, hb, hml, hown, hts⟩ := id C.1
  have hl : lv_has ls 4 [(0, .ref (xq X 24))] := hl
  unfold fX6_clearRings at hf
  refine lv_iconst (v := 0) hx hb dX6_clearRings_0 (by decide) ?_
  refine lv_istore_n (lv' := [(1, .int (0 : Int32)), (0, .ref (xq X 24))]) hx hb dX6_clearRings_1 rfl hl (by decide) rfl (fun ls hl => ?_)
  exact tX6_clearRings_2 C hr n st (0 : Int32) _ _ _ hw (lv_sub hl [1, 0] rfl) hf
theorem dX6_richest_0 : decode cX6_richest 0 = .ok (.iconst 0, 1) := by decide +kernel
theorem dX6_richest_1 : decode cX6_richest 1 = .ok (.istore_n 1, 1) := by decide +kernel
theorem dX6_richest_2 : decode cX6_richest 2 = .ok (.iconst 1, 1) := by decide +kernel
theorem dX6_richest_3 : decode cX6_richest 3 = .ok (.istore_n 2, 1) := by decide +kernel
theorem dX6_richest_4 : decode cX6_richest 4 = .ok (.iload_n 2, 1) := by decide +kernel
theorem dX6_richest_5 : decode cX6_richest 5 = .ok (.bipush 6, 2) := by decide +kernel
theorem dX6_richest_7 : decode cX6_richest 7 = .ok (.if_icmp .ge 24, 3) := by decide +kernel
theorem dX6_richest_10 : decode cX6_richest 10 = .ok (.aload_n 0, 1) := by decide +kernel
theorem dX6_richest_11 : decode cX6_richest 11 = .ok (.iload_n 2, 1) := by decide +kernel
theorem dX6_richest_12 : decode cX6_richest 12 = .ok (.invokevirtual 99, 3) := by decide +kernel
theorem dX6_richest_15 : decode cX6_richest 15 = .ok (.aload_n 0, 1) := by decide +kernel
theorem dX6_richest_16 : decode cX6_richest 16 = .ok (.iload_n 1, 1) := by decide +kernel
theorem dX6_richest_17 : decode cX6_richest 17 = .ok (.invokevirtual 99, 3) := by decide +kernel
theorem dX6_richest_20 : decode cX6_richest 20 = .ok (.if_icmp .le 5, 3) := by decide +kernel
theorem dX6_richest_23 : decode cX6_richest 23 = .ok (.iload_n 2, 1) := by decide +kernel
theorem dX6_richest_24 : decode cX6_richest 24 = .ok (.istore_n 1, 1) := by decide +kernel
theorem dX6_richest_25 : decode cX6_richest 25 = .ok (.iinc 2 1, 3) := by decide +kernel
theorem dX6_richest_28 : decode cX6_richest 28 = .ok (.goto (-24), 3) := by decide +kernel
theorem dX6_richest_31 : decode cX6_richest 31 = .ok (.iload_n 1, 1) := by decide +kernel
theorem dX6_richest_32 : decode cX6_richest 32 = .ok (.ireturn, 1) := by decide +kernel
theorem ok_yX6_richest : yOk yX6_richest 0 := ⟨by decide +kernel, by decide +kernel, by decide +kernel⟩
def fX6_richest_4 (n : Nat) (st : St) : Nat → Int32 → Int32 → Option (Int32)
  | 0, _, _ => none
  | k + 1, v1, v2 => if (6 : Int32) ≤ v2 then (some v1) else ((fX6_worthOf n st v2).bind (fun r2 => (fX6_worthOf n st v1).bind (fun r4 => if r2 ≤ r4 then (bnd (v2 + (1 : Int32)) (fun x7 => fX6_richest_4 n st k v1 x7)) else (bnd (v2 + (1 : Int32)) (fun x9 => fX6_richest_4 n st k v2 x9)))))
set_option maxHeartbeats 4000000 in
theorem tX6_richest_4 {p : Program} {l : Launch} {e : Env} {s : State} {m : MethodId} {args : Array Value} {below : List Frame} {meth : Method} {c : Code} {X : WX} (C : Amb 65 X p s m args meth c cX6_richest 3 RX6) (hr : meth.sig.returnType = some .int) {R : Int32} {n : Nat} {st : St} : ∀ (k : Nat) (v1 : Int32) (v2 : Int32) (H : Heap) (locs : List Loc) (ls : Array Slot), Wd EC 65 X s.heap st H locs → lv_has ls 3 [(0, .ref (xq X 24)), (1, .int v1), (2, .int v2)] → fX6_richest_4 n st k v1 v2 = some R → W p l e { frames := 2, cells := 0, slots := 0, locals := 44 } s m args below meth c H locs 0 0 (QI EC 65 X R st below args s) (F0 m 4 ls []) := by
  obtain ⟨hx, hb, hml, hown, hts⟩ := id C.1
  intro k
  induction k with
  | zero => intro v1 v2 H locs ls  hw hl hf; exact absurd (show none = some R from hf) (fun z => by cases z)
  | succ k ih =>
    intro v1 v2 H locs ls  hw hl hf
    rw [fX6_richest_4] at hf
    refine lv_iload_n hx hb dX6_richest_4 rfl (lv_at hl 2 rfl) ?_
    refine lv_bipush (v := 6) hx hb dX6_richest_5 (by decide) ?_
    refine lv_icmp_ge (tgt := 31) hx hb dX6_richest_7 (by decide) (fun c1 => ?_) (fun c1 => ?_)
    · replace hf := ite_t hf c1
      refine lv_iload_n hx hb dX6_richest_31 rfl (lv_at hl 1 rfl) ?_
      exact w_iret C hw hr (Option.some.inj hf) rfl dX6_richest_32
    · replace hf := ite_f hf c1
      refine lv_aload_n hx hb dX6_richest_10 rfl (lv_at hl 0 rfl) ?_
      refine lv_iload_n hx hb dX6_richest_11 rfl (lv_at hl 2 rfl) ?_
      obtain ⟨r2, k3, hf⟩ := bd_some hf
      refine w_goI hw (w_runV (rest := []) C hw (zX6_worthOf _ _ n st v2 r2 k3) (by decide) (EC_24 X _ _) rfl km_X6_99 ki_yX6_worthOf kv_X6_worthOf kz_X6 kc_X6_worthOf rfl ok_yX6_worthOf ⟨Nat.le_of_ble_eq_true rfl, Nat.le_of_ble_eq_true rfl⟩ rfl rfl rfl rfl hl.1 (Nat.le_of_ble_eq_true rfl) dX6_richest_12 ⟨Nat.zero_le _, Nat.zero_le _⟩) (fun H locs hw => ?_)
      refine lv_aload_n hx hb dX6_richest_15 rfl (lv_at hl 0 rfl) ?_
      refine lv_iload_n hx hb dX6_richest_16 rfl (lv_at hl 1 rfl) ?_
      obtain ⟨r4, k5, hf⟩ := bd_some hf
      refine w_goI hw (w_runV (rest := [.int r2]) C hw (zX6_worthOf _ _ n st v1 r4 k5) (by decide) (EC_24 X _ _) rfl km_X6_99 ki_yX6_worthOf kv_X6_worthOf kz_X6 kc_X6_worthOf rfl ok_yX6_worthOf ⟨Nat.le_of_ble_eq_true rfl, Nat.le_of_ble_eq_true rfl⟩ rfl rfl rfl rfl hl.1 (Nat.le_of_ble_eq_true rfl) dX6_richest_17 ⟨Nat.zero_le _, Nat.zero_le _⟩) (fun H locs hw => ?_)
      refine lv_icmp_le (tgt := 25) hx hb dX6_richest_20 (by decide) (fun c6 => ?_) (fun c6 => ?_)
      · replace hf := ite_t hf c6
        obtain ⟨x7, e8⟩ : ∃ z : Int32, z = v2 + (1 : Int32) := ⟨_, rfl⟩
        replace hf := bnd_nm hf e8
        refine lv_iinc (v := x7) (lv' := [(2, .int x7), (0, .ref (xq X 24)), (1, .int v1)]) hx hb dX6_richest_25 hl (k := 2) rfl (by rw [e8]; rfl) (by decide) rfl (fun ls hl => ?_)
        refine lv_goto (tgt := 4) hx hb dX6_richest_28 (by decide) ?_
        exact ih v1 x7 _ _ _ hw (lv_sub hl [1, 2, 0] rfl) hf
      · replace hf := ite_f hf c6
        refine lv_iload_n hx hb dX6_richest_23 rfl (lv_at hl 2 rfl) ?_
        refine lv_istore_n (lv' := [(1, .int v2), (0, .ref (xq X 24)), (2, .int v2)]) hx hb dX6_richest_24 rfl hl (by decide) rfl (fun ls hl => ?_)
        obtain ⟨x9, e10⟩ : ∃ z : Int32, z = v2 + (1 : Int32) := ⟨_, rfl⟩
        replace hf := bnd_nm hf e10
        refine lv_iinc (v := x9) (lv' := [(2, .int x9), (1, .int v2), (0, .ref (xq X 24))]) hx hb dX6_richest_25 hl (k := 2) rfl (by rw [e10]; rfl) (by decide) rfl (fun ls hl => ?_)
        refine lv_goto (tgt := 4) hx hb dX6_richest_28 (by decide) ?_
        exact ih v2 x9 _ _ _ hw (lv_sub hl [2, 1, 0] rfl) hf
def fX6_richest (n : Nat) (st : St) : Option (Int32) := fX6_richest_4 n st n (0 : Int32) (1 : Int32)
set_option maxHeartbeats 4000000 in
theorem zX6_richest (l : Launch) (X : WX) (n : Nat) (st : St)  (R : Int32) (hf : fX6_richest n st = some R) : CtI l yX6_richest cX6_richest 3 .int ({ frames := 2, cells := 0, slots := 0, locals := 44 }) EC 65 X [.ref (xq X 24)] st R st := by
  refine ct_in (own := RX6) (by decide +kernel) rfl (Nat.le_of_ble_eq_true rfl) (fun p e s m below meth c C hr hw ls hl => ?_)
  obtain ⟨hx, hb, hml, hown, hts⟩ := id C.1
  have hl : lv_has ls 3 [(0, .ref (xq X 24))] := hl
  unfold fX6_richest at hf
  refine lv_iconst (v := 0) hx hb dX6_richest_0 (by decide) ?_
  refine lv_istore_n (lv' := [(1, .int (0 : Int32)), (0, .ref (xq X 24))]) hx hb dX6_richest_1 rfl hl (by decide) rfl (fun ls hl => ?_)
  refine lv_iconst (v := 1) hx hb dX6_richest_2 (by decide) ?_
  refine lv_istore_n (lv' := [(2, .int (1 : Int32)), (1, .int (0 : Int32)), (0, .ref (xq X 24))]) hx hb dX6_richest_3 rfl hl (by decide) rfl (fun ls hl => ?_)
  exact tX6_richest_4 C hr n (0 : Int32) (1 : Int32) _ _ _ hw (lv_sub hl [2, 1, 0] rfl) hf
theorem dX6_draw_0 : decode cX6_draw 0 = .ok (.aload_n 0, 1) := by decide +kernel
theorem dX6_draw_1 : decode cX6_draw 1 = .ok (.getfield 9, 3) := by decide +kernel
theorem dX6_draw_4 : decode cX6_draw 4 = .ok (.iconst 0, 1) := by decide +kernel
theorem dX6_draw_5 : decode cX6_draw 5 = .ok (.invokestatic 71, 3) := by decide +kernel
theorem dX6_draw_8 : decode cX6_draw 8 = .ok (.iconst 0, 1) := by decide +kernel
theorem dX6_draw_9 : decode cX6_draw 9 = .ok (.istore_n 3, 1) := by decide +kernel
theorem dX6_draw_10 : decode cX6_draw 10 = .ok (.iload_n 1, 1) := by decide +kernel
theorem dX6_draw_11 : decode cX6_draw 11 = .ok (.istore 4, 2) := by decide +kernel
theorem dX6_draw_13 : decode cX6_draw 13 = .ok (.iconst 0, 1) := by decide +kernel
theorem dX6_draw_14 : decode cX6_draw 14 = .ok (.istore 5, 2) := by decide +kernel
theorem dX6_draw_16 : decode cX6_draw 16 = .ok (.iload 5, 2) := by decide +kernel
theorem dX6_draw_18 : decode cX6_draw 18 = .ok (.iload_n 2, 1) := by decide +kernel
theorem dX6_draw_19 : decode cX6_draw 19 = .ok (.if_icmp .ge 114, 3) := by decide +kernel
theorem dX6_draw_22 : decode cX6_draw 22 = .ok (.iload 4, 2) := by decide +kernel
theorem dX6_draw_24 : decode cX6_draw 24 = .ok (.ldc 84, 2) := by decide +kernel
theorem dX6_draw_26 : decode cX6_draw 26 = .ok (.imul, 1) := by decide +kernel
theorem dX6_draw_27 : decode cX6_draw 27 = .ok (.sipush 12345, 3) := by decide +kernel
theorem dX6_draw_30 : decode cX6_draw 30 = .ok (.iadd, 1) := by decide +kernel
theorem dX6_draw_31 : decode cX6_draw 31 = .ok (.istore 4, 2) := by decide +kernel
theorem dX6_draw_33 : decode cX6_draw 33 = .ok (.iload 4, 2) := by decide +kernel
theorem dX6_draw_35 : decode cX6_draw 35 = .ok (.bipush 8, 2) := by decide +kernel
theorem dX6_draw_37 : decode cX6_draw 37 = .ok (.iushr, 1) := by decide +kernel
theorem dX6_draw_38 : decode cX6_draw 38 = .ok (.bipush 20, 2) := by decide +kernel
theorem dX6_draw_40 : decode cX6_draw 40 = .ok (.irem, 1) := by decide +kernel
theorem dX6_draw_41 : decode cX6_draw 41 = .ok (.istore 6, 2) := by decide +kernel
theorem dX6_draw_43 : decode cX6_draw 43 = .ok (.iload 4, 2) := by decide +kernel
theorem dX6_draw_45 : decode cX6_draw 45 = .ok (.bipush 14, 2) := by decide +kernel
theorem dX6_draw_47 : decode cX6_draw 47 = .ok (.iushr, 1) := by decide +kernel
theorem dX6_draw_48 : decode cX6_draw 48 = .ok (.bipush 20, 2) := by decide +kernel
theorem dX6_draw_50 : decode cX6_draw 50 = .ok (.irem, 1) := by decide +kernel
theorem dX6_draw_51 : decode cX6_draw 51 = .ok (.istore 7, 2) := by decide +kernel
theorem dX6_draw_53 : decode cX6_draw 53 = .ok (.aload_n 0, 1) := by decide +kernel
theorem dX6_draw_54 : decode cX6_draw 54 = .ok (.getfield 20, 3) := by decide +kernel
theorem dX6_draw_57 : decode cX6_draw 57 = .ok (.bipush 10, 2) := by decide +kernel
theorem dX6_draw_59 : decode cX6_draw 59 = .ok (.bipush 20, 2) := by decide +kernel
theorem dX6_draw_61 : decode cX6_draw 61 = .ok (.iload 7, 2) := by decide +kernel
theorem dX6_draw_63 : decode cX6_draw 63 = .ok (.imul, 1) := by decide +kernel
theorem dX6_draw_64 : decode cX6_draw 64 = .ok (.iload 6, 2) := by decide +kernel
theorem dX6_draw_66 : decode cX6_draw 66 = .ok (.iadd, 1) := by decide +kernel
theorem dX6_draw_67 : decode cX6_draw 67 = .ok (.iload 4, 2) := by decide +kernel
theorem dX6_draw_69 : decode cX6_draw 69 = .ok (.bipush 19, 2) := by decide +kernel
theorem dX6_draw_71 : decode cX6_draw 71 = .ok (.iushr, 1) := by decide +kernel
theorem dX6_draw_72 : decode cX6_draw 72 = .ok (.bipush 60, 2) := by decide +kernel
theorem dX6_draw_74 : decode cX6_draw 74 = .ok (.irem, 1) := by decide +kernel
theorem dX6_draw_75 : decode cX6_draw 75 = .ok (.iload 4, 2) := by decide +kernel
theorem dX6_draw_77 : decode cX6_draw 77 = .ok (.bipush 27, 2) := by decide +kernel
theorem dX6_draw_79 : decode cX6_draw 79 = .ok (.iushr, 1) := by decide +kernel
theorem dX6_draw_80 : decode cX6_draw 80 = .ok (.iconst 4, 1) := by decide +kernel
theorem dX6_draw_81 : decode cX6_draw 81 = .ok (.irem, 1) := by decide +kernel
theorem dX6_draw_82 : decode cX6_draw 82 = .ok (.invokevirtual 85, 3) := by decide +kernel
theorem dX6_draw_85 : decode cX6_draw 85 = .ok (.aload_n 0, 1) := by decide +kernel
theorem dX6_draw_86 : decode cX6_draw 86 = .ok (.bipush 10, 2) := by decide +kernel
theorem dX6_draw_88 : decode cX6_draw 88 = .ok (.aload_n 0, 1) := by decide +kernel
theorem dX6_draw_89 : decode cX6_draw 89 = .ok (.getfield 9, 3) := by decide +kernel
theorem dX6_draw_92 : decode cX6_draw 92 = .ok (.invokevirtual 80, 3) := by decide +kernel
theorem dX6_draw_95 : decode cX6_draw 95 = .ok (.pop, 1) := by decide +kernel
theorem dX6_draw_96 : decode cX6_draw 96 = .ok (.aload_n 0, 1) := by decide +kernel
theorem dX6_draw_97 : decode cX6_draw 97 = .ok (.getfield 61, 3) := by decide +kernel
theorem dX6_draw_100 : decode cX6_draw 100 = .ok (.ifCond .le 27, 3) := by decide +kernel
theorem dX6_draw_103 : decode cX6_draw 103 = .ok (.aload_n 0, 1) := by decide +kernel
theorem dX6_draw_104 : decode cX6_draw 104 = .ok (.getfield 20, 3) := by decide +kernel
theorem dX6_draw_107 : decode cX6_draw 107 = .ok (.aload_n 0, 1) := by decide +kernel
theorem dX6_draw_108 : decode cX6_draw 108 = .ok (.getfield 20, 3) := by decide +kernel
theorem dX6_draw_111 : decode cX6_draw 111 = .ok (.iload 6, 2) := by decide +kernel
theorem dX6_draw_113 : decode cX6_draw 113 = .ok (.iload 7, 2) := by decide +kernel
theorem dX6_draw_115 : decode cX6_draw 115 = .ok (.invokevirtual 89, 3) := by decide +kernel
theorem dX6_draw_118 : decode cX6_draw 118 = .ok (.invokevirtual 32, 3) := by decide +kernel
theorem dX6_draw_121 : decode cX6_draw 121 = .ok (.ifCond .lt 6, 3) := by decide +kernel
theorem dX6_draw_124 : decode cX6_draw 124 = .ok (.iinc 3 1, 3) := by decide +kernel
theorem dX6_draw_127 : decode cX6_draw 127 = .ok (.iinc 5 1, 3) := by decide +kernel
theorem dX6_draw_130 : decode cX6_draw 130 = .ok (.goto (-114), 3) := by decide +kernel
theorem dX6_draw_133 : decode cX6_draw 133 = .ok (.iload_n 3, 1) := by decide +kernel
theorem dX6_draw_134 : decode cX6_draw 134 = .ok (.ireturn, 1) := by decide +kernel
theorem ok_yX6_draw : yOk yX6_draw 2 := ⟨by decide +kernel, by decide +kernel, by decide +kernel⟩
def fX6_draw_16 (n : Nat) : Nat → St → Int32 → Int32 → Int32 → Int32 → Option (Int32 × St)
  | 0, _, _, _, _, _ => none
  | k + 1, st, v2, v3, v4, v5 => if v2 ≤ v5 then (some (v3, st)) else (bnd ((v4 * (1103515245 : Int32)) + (12345 : Int32)) (fun x4 => bnd (rmI (usI x4 (8 : Int32)) (20 : Int32)) (fun x6 => bnd (rmI (usI x4 (14 : Int32)) (20 : Int32)) (fun x8 => (fX3_placeFall st (10 : Int32) (((20 : Int32) * x8) + x6) (rmI (usI x4 (19 : Int32)) (60 : Int32)) (rmI (usI x4 (27 : Int32)) (4 : Int32))).bind (fun r10 => (fX6_settle_1 n r10 (10 : Int32)).bind (fun r12 => if gI r12.2 24 3 ≤ 0 then (bnd (v5 + (1 : Int32)) (fun x15 => fX6_draw_16 n k r12.2 v2 v3 x4 x15)) else ((fX3_fieldAt n r12.2 x6 x8).bind (fun r17 => (fX3_ownerOf r12.2 r17).bind (fun r19 => if r19 < 0 then (bnd (v5 + (1 : Int32)) (fun x22 => fX6_draw_16 n k r12.2 v2 v3 x4 x22)) else (bnd (v3 + (1 : Int32)) (fun x24 => bnd (v5 + (1 : Int32)) (fun x26 => fX6_draw_16 n k r12.2 v2 x24 x4 x26))))))))))))
set_option maxHeartbeats 4000000 in
theorem tX6_draw_16 {p : Program} {l : Launch} {e : Env} {s : State} {m : MethodId} {args : Array Value} {below : List Frame} {meth : Method} {c : Code} {X : WX} (C : Amb 65 X p s m args meth c cX6_draw 8 RX6) (hr : meth.sig.returnType = some .int) {R : Int32 × St} {n : Nat} : ∀ (k : Nat) (st : St) (v2 : Int32) (v3 : Int32) (v4 : Int32) (v5 : Int32) (H : Heap) (locs : List Loc) (ls : Array Slot), Wd EC 65 X s.heap st H locs → lv_has ls 8 [(0, .ref (xq X 24)), (2, .int v2), (3, .int v3), (4, .int v4), (5, .int v5)] → fX6_draw_16 n k st v2 v3 v4 v5 = some R → W p l e { frames := 5, cells := 0, slots := 0, locals := 130 } s m args below meth c H locs 0 0 (QI EC 65 X R.1 R.2 below args s) (F0 m 16 ls []) := by
  obtain ⟨hx, hb, hml, hown, hts⟩ := id C.1
  intro k
  induction k with
  | zero => intro st v2 v3 v4 v5 H locs ls  hw hl hf; exact absurd (show none = some R from hf) (fun z => by cases z)
  | succ k ih =>
    intro st v2 v3 v4 v5 H locs ls  hw hl hf
    rw [fX6_draw_16] at hf
    refine lv_iload hx hb dX6_draw_16 (lv_at hl 4 rfl) ?_
    refine lv_iload_n hx hb dX6_draw_18 rfl (lv_at hl 1 rfl) ?_
    refine lv_icmp_ge (tgt := 133) hx hb dX6_draw_19 (by decide) (fun c3 => ?_) (fun c3 => ?_)
    · replace hf := ite_t hf c3
      refine lv_iload_n hx hb dX6_draw_133 rfl (lv_at hl 2 rfl) ?_
      exact w_iret C hw hr (so2 hf).1 (so2 hf).2 dX6_draw_134
    · replace hf := ite_f hf c3
      refine lv_iload hx hb dX6_draw_22 (lv_at hl 3 rfl) ?_
      refine lv_ldc (v := 1103515245) hx hb hown (hts _ kn_X6_84) dX6_draw_24 ?_
      refine lv_imul hx hb dX6_draw_26 ?_
      refine lv_sipush (v := 12345) hx hb dX6_draw_27 (by decide) ?_
      refine lv_iadd hx hb dX6_draw_30 ?_
      refine lv_topi (fun x4 e5 => ?_)
      replace hf := bnd_nm hf e5
      refine lv_istore (lv' := [(4, .int x4), (0, .ref (xq X 24)), (2, .int v2), (3, .int v3), (5, .int v5)]) hx hb dX6_draw_31 hl (by decide) rfl (fun ls hl => ?_)
      refine lv_iload hx hb dX6_draw_33 (lv_at hl 0 rfl) ?_
      refine lv_bipush (v := 8) hx hb dX6_draw_35 (by decide) ?_
      refine lv_iushr (v := usI x4 (8 : Int32)) hx hb dX6_draw_37 rfl ?_
      refine lv_bipush (v := 20) hx hb dX6_draw_38 (by decide) ?_
      refine w_irem C (by decide) dX6_draw_40 ?_
      refine lv_topi (fun x6 e7 => ?_)
      replace hf := bnd_nm hf e7
      refine lv_istore (lv' := [(6, .int x6), (4, .int x4), (0, .ref (xq X 24)), (2, .int v2), (3, .int v3), (5, .int v5)]) hx hb dX6_draw_41 hl (by decide) rfl (fun ls hl => ?_)
      refine lv_iload hx hb dX6_draw_43 (lv_at hl 1 rfl) ?_
      refine lv_bipush (v := 14) hx hb dX6_draw_45 (by decide) ?_
      refine lv_iushr (v := usI x4 (14 : Int32)) hx hb dX6_draw_47 rfl ?_
      refine lv_bipush (v := 20) hx hb dX6_draw_48 (by decide) ?_
      refine w_irem C (by decide) dX6_draw_50 ?_
      refine lv_topi (fun x8 e9 => ?_)
      replace hf := bnd_nm hf e9
      refine lv_istore (lv' := [(7, .int x8), (6, .int x6), (4, .int x4), (0, .ref (xq X 24)), (2, .int v2), (3, .int v3), (5, .int v5)]) hx hb dX6_draw_51 hl (by decide) rfl (fun ls hl => ?_)
      refine lv_aload_n hx hb dX6_draw_53 rfl (lv_at hl 3 rfl) ?_
      refine w_get (T := TX6) C hw (by decide) 4 kf_X6_20 (EC_24 X _ _) rfl inA6 (by decide) rfl dX6_draw_54 ?_
      refine lv_bipush (v := 10) hx hb dX6_draw_57 (by decide) ?_
      refine lv_bipush (v := 20) hx hb dX6_draw_59 (by decide) ?_
      refine lv_iload hx hb dX6_draw_61 (lv_at hl 0 rfl) ?_
      refine lv_imul hx hb dX6_draw_63 ?_
      refine lv_iload hx hb dX6_draw_64 (lv_at hl 1 rfl) ?_
      refine lv_iadd hx hb dX6_draw_66 ?_
      refine lv_iload hx hb dX6_draw_67 (lv_at hl 2 rfl) ?_
      refine lv_bipush (v := 19) hx hb dX6_draw_69 (by decide) ?_
      refine lv_iushr (v := usI x4 (19 : Int32)) hx hb dX6_draw_71 rfl ?_
      refine lv_bipush (v := 60) hx hb dX6_draw_72 (by decide) ?_
      refine w_irem C (by decide) dX6_draw_74 ?_
      refine lv_iload hx hb dX6_draw_75 (lv_at hl 2 rfl) ?_
      refine lv_bipush (v := 27) hx hb dX6_draw_77 (by decide) ?_
      refine lv_iushr (v := usI x4 (27 : Int32)) hx hb dX6_draw_79 rfl ?_
      refine lv_iconst (v := 4) hx hb dX6_draw_80 (by decide) ?_
      refine w_irem C (by decide) dX6_draw_81 ?_
      obtain ⟨r10, k11, hf⟩ := bd_some hf
      refine w_goV hw (w_runV (rest := []) C hw (zX3_placeFall _ _ st (10 : Int32) (((20 : Int32) * x8) + x6) (rmI (usI x4 (19 : Int32)) (60 : Int32)) (rmI (usI x4 (27 : Int32)) (4 : Int32)) r10 k11) (by decide) (EC_1 X _ _) rfl km_X6_85 ki_yX3_placeFall kv_X3_placeFall kz_X3 kc_X3_placeFall rfl ok_yX3_placeFall ⟨Nat.le_of_ble_eq_true rfl, Nat.le_of_ble_eq_true rfl⟩ rfl rfl rfl rfl hl.1 (Nat.le_of_ble_eq_true rfl) dX6_draw_82 ⟨Nat.zero_le _, Nat.zero_le _⟩) (fun H locs hw => ?_)
      refine lv_aload_n hx hb dX6_draw_85 rfl (lv_at hl 3 rfl) ?_
      refine lv_bipush (v := 10) hx hb dX6_draw_86 (by decide) ?_
      refine lv_aload_n hx hb dX6_draw_88 rfl (lv_at hl 3 rfl) ?_
      refine w_get (T := TX6) C hw (by decide) 0 kf_X6_9 (EC_24 X _ _) rfl inA6 (by decide) rfl dX6_draw_89 ?_
      obtain ⟨r12, k13, hf⟩ := bd_some hf
      refine w_goI hw (w_runV (rest := []) C hw (zX6_settle_1 _ _ n r10 (10 : Int32) r12 k13) (by decide) (EC_24 X _ _) rfl km_X6_80 ki_yX6_settle kv_X6_settle kz_X6 kc_X6_settle rfl ok_yX6_settle ⟨Nat.le_of_ble_eq_true rfl, Nat.le_of_ble_eq_true rfl⟩ rfl rfl rfl rfl hl.1 (Nat.le_of_ble_eq_true rfl) dX6_draw_92 ⟨Nat.zero_le _, Nat.zero_le _⟩) (fun H locs hw => ?_)
      refine lv_pop hx hb dX6_draw_95 rfl ?_
      refine lv_aload_n hx hb dX6_draw_96 rfl (lv_at hl 3 rfl) ?_
      refine w_get (T := TX6) C hw (by decide) 3 kf_X6_61 (EC_24 X _ _) rfl inA6 (by decide) rfl dX6_draw_97 ?_
      refine lv_if_le (tgt := 127) hx hb dX6_draw_100 (by decide) (fun c14 => ?_) (fun c14 => ?_)
      · replace hf := ite_t hf c14
        obtain ⟨x15, e16⟩ : ∃ z : Int32, z = v5 + (1 : Int32) := ⟨_, rfl⟩
        replace hf := bnd_nm hf e16
        refine lv_iinc (v := x15) (lv' := [(5, .int x15), (7, .int x8), (6, .int x6), (4, .int x4), (0, .ref (xq X 24)), (2, .int v2), (3, .int v3)]) hx hb dX6_draw_127 hl (k := 6) rfl (by rw [e16]; rfl) (by decide) rfl (fun ls hl => ?_)
        refine lv_goto (tgt := 16) hx hb dX6_draw_130 (by decide) ?_
        exact ih r12.2 v2 v3 x4 x15 _ _ _ hw (lv_sub hl [4, 5, 6, 3, 0] rfl) hf
      · replace hf := ite_f hf c14
        refine lv_aload_n hx hb dX6_draw_103 rfl (lv_at hl 3 rfl) ?_
        refine w_get (T := TX6) C hw (by decide) 4 kf_X6_20 (EC_24 X _ _) rfl inA6 (by decide) rfl dX6_draw_104 ?_
        refine lv_aload_n hx hb dX6_draw_107 rfl (lv_at hl 3 rfl) ?_
        refine w_get (T := TX6) C hw (by decide) 4 kf_X6_20 (EC_24 X _ _) rfl inA6 (by decide) rfl dX6_draw_108 ?_
        refine lv_iload hx hb dX6_draw_111 (lv_at hl 1 rfl) ?_
        refine lv_iload hx hb dX6_draw_113 (lv_at hl 0 rfl) ?_
        obtain ⟨r17, k18, hf⟩ := bd_some hf
        refine w_goI hw (w_runV (rest := [.ref (xq X 1)]) C hw (zX3_fieldAt _ _ n r12.2 x6 x8 r17 k18) (by decide) (EC_1 X _ _) rfl km_X6_89 ki_yX3_fieldAt kv_X3_fieldAt kz_X3 kc_X3_fieldAt rfl ok_yX3_fieldAt ⟨Nat.le_of_ble_eq_true rfl, Nat.le_of_ble_eq_true rfl⟩ rfl rfl rfl rfl hl.1 (Nat.le_of_ble_eq_true rfl) dX6_draw_115 ⟨Nat.zero_le _, Nat.zero_le _⟩) (fun H locs hw => ?_)
        obtain ⟨r19, k20, hf⟩ := bd_some hf
        refine w_goI hw (w_runV (rest := []) C hw (zX3_ownerOf _ _ r12.2 r17 r19 k20) (by decide) (EC_1 X _ _) rfl km_X6_32 ki_yX3_ownerOf kv_X3_ownerOf kz_X3 kc_X3_ownerOf rfl ok_yX3_ownerOf ⟨Nat.le_of_ble_eq_true rfl, Nat.le_of_ble_eq_true rfl⟩ rfl rfl rfl rfl hl.1 (Nat.le_of_ble_eq_true rfl) dX6_draw_118 ⟨Nat.zero_le _, Nat.zero_le _⟩) (fun H locs hw => ?_)
        refine lv_if_lt (tgt := 127) hx hb dX6_draw_121 (by decide) (fun c21 => ?_) (fun c21 => ?_)
        · replace hf := ite_t hf c21
          obtain ⟨x22, e23⟩ : ∃ z : Int32, z = v5 + (1 : Int32) := ⟨_, rfl⟩
          replace hf := bnd_nm hf e23
          refine lv_iinc (v := x22) (lv' := [(5, .int x22), (7, .int x8), (6, .int x6), (4, .int x4), (0, .ref (xq X 24)), (2, .int v2), (3, .int v3)]) hx hb dX6_draw_127 hl (k := 6) rfl (by rw [e23]; rfl) (by decide) rfl (fun ls hl => ?_)
          refine lv_goto (tgt := 16) hx hb dX6_draw_130 (by decide) ?_
          exact ih r12.2 v2 v3 x4 x22 _ _ _ hw (lv_sub hl [4, 5, 6, 3, 0] rfl) hf
        · replace hf := ite_f hf c21
          obtain ⟨x24, e25⟩ : ∃ z : Int32, z = v3 + (1 : Int32) := ⟨_, rfl⟩
          replace hf := bnd_nm hf e25
          refine lv_iinc (v := x24) (lv' := [(3, .int x24), (7, .int x8), (6, .int x6), (4, .int x4), (0, .ref (xq X 24)), (2, .int v2), (5, .int v5)]) hx hb dX6_draw_124 hl (k := 5) rfl (by rw [e25]; rfl) (by decide) rfl (fun ls hl => ?_)
          obtain ⟨x26, e27⟩ : ∃ z : Int32, z = v5 + (1 : Int32) := ⟨_, rfl⟩
          replace hf := bnd_nm hf e27
          refine lv_iinc (v := x26) (lv' := [(5, .int x26), (3, .int x24), (7, .int x8), (6, .int x6), (4, .int x4), (0, .ref (xq X 24)), (2, .int v2)]) hx hb dX6_draw_127 hl (k := 6) rfl (by rw [e27]; rfl) (by decide) rfl (fun ls hl => ?_)
          refine lv_goto (tgt := 16) hx hb dX6_draw_130 (by decide) ?_
          exact ih r12.2 v2 x24 x4 x26 _ _ _ hw (lv_sub hl [5, 6, 1, 4, 0] rfl) hf
def fX6_draw (n : Nat) (st : St) (a1 : Int32) (a2 : Int32) : Option (Int32 × St) := bnd (sIs st 25 (flI (gI st 25) 36 (0 : Int32))) (fun st1 => fX6_draw_16 n n st1 a2 (0 : Int32) a1 (0 : Int32))
set_option maxHeartbeats 4000000 in
theorem zX6_draw (l : Launch) (X : WX) (n : Nat) (st : St) (a1 : Int32) (a2 : Int32) (R : Int32 × St) (hf : fX6_draw n st a1 a2 = some R) : CtI l yX6_draw cX6_draw 8 .int ({ frames := 5, cells := 0, slots := 0, locals := 130 }) EC 65 X [.ref (xq X 24), .int a1, .int a2] st R.1 R.2 := by
  refine ct_in (own := RX6) (by decide +kernel) rfl (Nat.le_of_ble_eq_true rfl) (fun p e s m below meth c C hr hw ls hl => ?_)
  obtain ⟨hx, hb, hml, hown, hts⟩ := id C.1
  have hl : lv_has ls 8 [(0, .ref (xq X 24)), (1, .int a1), (2, .int a2)] := hl
  unfold fX6_draw at hf
  refine lv_aload_n hx hb dX6_draw_0 rfl (lv_at hl 0 rfl) ?_
  refine w_get (T := TX6) C hw (by decide) 0 kf_X6_9 (EC_24 X _ _) rfl inA6 (by decide) rfl dX6_draw_1 ?_
  refine lv_iconst (v := 0) hx hb dX6_draw_4 (by decide) ?_
  obtain ⟨st1, es2⟩ : ∃ z : St, z = sIs st 25 (flI (gI st 25) 36 (0 : Int32)) := ⟨_, rfl⟩
  replace hf := bnd_nm hf es2
  refine w_goV hw (w_runS (rest := []) C hw (zfillI _ _ st 25 36 (0 : Int32) (by decide) (fun f9 => EC_25 X f9 _) (by decide)) km_X6_71 kt_yJ7_fill_53178 kz_J7 kc_J7_fill_53178 ok_yJ7_fill_53178 ⟨Nat.le_of_ble_eq_true rfl, Nat.le_of_ble_eq_true rfl⟩ rfl rfl rfl rfl hl.1 (Nat.le_of_ble_eq_true rfl) dX6_draw_5 ⟨Nat.zero_le _, Nat.zero_le _⟩) (fun H locs hw => ?_)
  rw [← es2] at hw
  refine lv_iconst (v := 0) hx hb dX6_draw_8 (by decide) ?_
  refine lv_istore_n (lv' := [(3, .int (0 : Int32)), (0, .ref (xq X 24)), (1, .int a1), (2, .int a2)]) hx hb dX6_draw_9 rfl hl (by decide) rfl (fun ls hl => ?_)
  refine lv_iload_n hx hb dX6_draw_10 rfl (lv_at hl 2 rfl) ?_
  refine lv_istore (lv' := [(4, .int a1), (3, .int (0 : Int32)), (0, .ref (xq X 24)), (1, .int a1), (2, .int a2)]) hx hb dX6_draw_11 hl (by decide) rfl (fun ls hl => ?_)
  refine lv_iconst (v := 0) hx hb dX6_draw_13 (by decide) ?_
  refine lv_istore (lv' := [(5, .int (0 : Int32)), (4, .int a1), (3, .int (0 : Int32)), (0, .ref (xq X 24)), (1, .int a1), (2, .int a2)]) hx hb dX6_draw_14 hl (by decide) rfl (fun ls hl => ?_)
  exact tX6_draw_16 C hr n st1 a2 (0 : Int32) a1 (0 : Int32) _ _ _ hw (lv_sub hl [3, 5, 2, 1, 0] rfl) hf
