theorem dX11_drawn_0 : decode cX11_drawn 0 = .ok (.iload_n 2, 1) := by decide +kernel
theorem dX11_drawn_1 : decode cX11_drawn 1 = .ok (.ifCond .lt 33, 3) := by decide +kernel
theorem dX11_drawn_4 : decode cX11_drawn 4 = .ok (.iload_n 2, 1) := by decide +kernel
theorem dX11_drawn_5 : decode cX11_drawn 5 = .ok (.bipush 100, 2) := by decide +kernel
theorem dX11_drawn_7 : decode cX11_drawn 7 = .ok (.idiv, 1) := by decide +kernel
theorem dX11_drawn_8 : decode cX11_drawn 8 = .ok (.iconst 1, 1) := by decide +kernel
theorem dX11_drawn_9 : decode cX11_drawn 9 = .ok (.bipush 30, 2) := by decide +kernel
theorem dX11_drawn_11 : decode cX11_drawn 11 = .ok (.invokestatic 117, 3) := by decide +kernel
theorem dX11_drawn_14 : decode cX11_drawn 14 = .ok (.ifCond .eq 20, 3) := by decide +kernel
theorem dX11_drawn_17 : decode cX11_drawn 17 = .ok (.iload_n 2, 1) := by decide +kernel
theorem dX11_drawn_18 : decode cX11_drawn 18 = .ok (.bipush 100, 2) := by decide +kernel
theorem dX11_drawn_20 : decode cX11_drawn 20 = .ok (.irem, 1) := by decide +kernel
theorem dX11_drawn_21 : decode cX11_drawn 21 = .ok (.iconst 1, 1) := by decide +kernel
theorem dX11_drawn_22 : decode cX11_drawn 22 = .ok (.bipush 20, 2) := by decide +kernel
theorem dX11_drawn_24 : decode cX11_drawn 24 = .ok (.invokestatic 117, 3) := by decide +kernel
theorem dX11_drawn_27 : decode cX11_drawn 27 = .ok (.ifCond .eq 7, 3) := by decide +kernel
theorem dX11_drawn_30 : decode cX11_drawn 30 = .ok (.iconst 1, 1) := by decide +kernel
theorem dX11_drawn_31 : decode cX11_drawn 31 = .ok (.goto 4, 3) := by decide +kernel
theorem dX11_drawn_34 : decode cX11_drawn 34 = .ok (.iconst 0, 1) := by decide +kernel
theorem dX11_drawn_35 : decode cX11_drawn 35 = .ok (.istore 5, 2) := by decide +kernel
theorem dX11_drawn_37 : decode cX11_drawn 37 = .ok (.iload 5, 2) := by decide +kernel
theorem dX11_drawn_39 : decode cX11_drawn 39 = .ok (.ifCond .eq 25, 3) := by decide +kernel
theorem dX11_drawn_42 : decode cX11_drawn 42 = .ok (.iload_n 3, 1) := by decide +kernel
theorem dX11_drawn_43 : decode cX11_drawn 43 = .ok (.iconst 0, 1) := by decide +kernel
theorem dX11_drawn_44 : decode cX11_drawn 44 = .ok (.iconst 1, 1) := by decide +kernel
theorem dX11_drawn_45 : decode cX11_drawn 45 = .ok (.invokestatic 117, 3) := by decide +kernel
theorem dX11_drawn_48 : decode cX11_drawn 48 = .ok (.ifCond .eq 16, 3) := by decide +kernel
theorem dX11_drawn_51 : decode cX11_drawn 51 = .ok (.iload_n 3, 1) := by decide +kernel
theorem dX11_drawn_52 : decode cX11_drawn 52 = .ok (.iconst 1, 1) := by decide +kernel
theorem dX11_drawn_53 : decode cX11_drawn 53 = .ok (.if_icmp .ne 13, 3) := by decide +kernel
theorem dX11_drawn_56 : decode cX11_drawn 56 = .ok (.iload 4, 2) := by decide +kernel
theorem dX11_drawn_58 : decode cX11_drawn 58 = .ok (.invokestatic 151, 3) := by decide +kernel
theorem dX11_drawn_61 : decode cX11_drawn 61 = .ok (.ifCond .ne 5, 3) := by decide +kernel
theorem dX11_drawn_64 : decode cX11_drawn 64 = .ok (.iconst (-1), 1) := by decide +kernel
theorem dX11_drawn_65 : decode cX11_drawn 65 = .ok (.ireturn, 1) := by decide +kernel
theorem dX11_drawn_66 : decode cX11_drawn 66 = .ok (.aload_n 0, 1) := by decide +kernel
theorem dX11_drawn_67 : decode cX11_drawn 67 = .ok (.getfield 35, 3) := by decide +kernel
theorem dX11_drawn_70 : decode cX11_drawn 70 = .ok (.iload_n 1, 1) := by decide +kernel
theorem dX11_drawn_71 : decode cX11_drawn 71 = .ok (.iload_n 2, 1) := by decide +kernel
theorem dX11_drawn_72 : decode cX11_drawn 72 = .ok (.bipush 100, 2) := by decide +kernel
theorem dX11_drawn_74 : decode cX11_drawn 74 = .ok (.idiv, 1) := by decide +kernel
theorem dX11_drawn_75 : decode cX11_drawn 75 = .ok (.iload_n 2, 1) := by decide +kernel
theorem dX11_drawn_76 : decode cX11_drawn 76 = .ok (.bipush 100, 2) := by decide +kernel
theorem dX11_drawn_78 : decode cX11_drawn 78 = .ok (.irem, 1) := by decide +kernel
theorem dX11_drawn_79 : decode cX11_drawn 79 = .ok (.imul, 1) := by decide +kernel
theorem dX11_drawn_80 : decode cX11_drawn 80 = .ok (.invokevirtual 336, 3) := by decide +kernel
theorem dX11_drawn_83 : decode cX11_drawn 83 = .ok (.istore 6, 2) := by decide +kernel
theorem dX11_drawn_85 : decode cX11_drawn 85 = .ok (.iload_n 3, 1) := by decide +kernel
theorem dX11_drawn_86 : decode cX11_drawn 86 = .ok (.ifCond .ne 8, 3) := by decide +kernel
theorem dX11_drawn_89 : decode cX11_drawn 89 = .ok (.iload 6, 2) := by decide +kernel
theorem dX11_drawn_91 : decode cX11_drawn 91 = .ok (.goto 12, 3) := by decide +kernel
theorem dX11_drawn_94 : decode cX11_drawn 94 = .ok (.aload_n 0, 1) := by decide +kernel
theorem dX11_drawn_95 : decode cX11_drawn 95 = .ok (.getfield 35, 3) := by decide +kernel
theorem dX11_drawn_98 : decode cX11_drawn 98 = .ok (.iload 4, 2) := by decide +kernel
theorem dX11_drawn_100 : decode cX11_drawn 100 = .ok (.invokevirtual 234, 3) := by decide +kernel
theorem dX11_drawn_103 : decode cX11_drawn 103 = .ok (.ireturn, 1) := by decide +kernel
theorem ok_yX11_drawn : yOk yX11_drawn 4 := ⟨by decide +kernel, by decide +kernel, by decide +kernel⟩
def fX11_drawn_66 (n : Nat) (st : St) (v1 : Int32) (v2 : Int32) (v3 : Int32) (v4 : Int32) : Option (Int32 × St) := (fX6_draw n st v1 ((v2 / (100 : Int32)) * (rmI v2 (100 : Int32)))).bind (fun r8 => if v3 = 0 then (some (r8.1, r8.2)) else ((fX6_owes n r8.2 v4).bind (fun r11 => some (r11, r8.2))))
set_option maxHeartbeats 4000000 in
theorem tX11_drawn_66 {p : Program} {l : Launch} {e : Env} {s : State} {m : MethodId} {args : Array Value} {below : List Frame} {meth : Method} {c : Code} {X : WX} (C : Amb 65 X p s m args meth c cX11_drawn 7 RX11) (hr : meth.sig.returnType = some .int) {R : Int32 × St} {n : Nat} : ∀ (st : St) (v1 : Int32) (v2 : Int32) (v3 : Int32) (v4 : Int32) (H : Heap) (locs : List Loc) (ls : Array Slot), Wd EC 65 X s.heap st H locs → lv_has ls 7 [(0, .ref (xq X 0)), (1, .int v1), (2, .int v2), (3, .int v3), (4, .int v4)] → fX11_drawn_66 n st v1 v2 v3 v4 = some R → W p l e { frames := 6, cells := 0, slots := 0, locals := 157 } s m args below meth c H locs 0 0 (QI EC 65 X R.1 R.2 below args s) (F0 m 66 ls []) := by
  obtain ⟨hx, hb, hml, hown, hts⟩ := id C.1
  intro st v1 v2 v3 v4 H locs ls  hw hl hf
  unfold fX11_drawn_66 at hf
  refine lv_aload_n hx hb dX11_drawn_66 rfl (lv_at hl 0 rfl) ?_
  refine w_get (T := TX11) C hw (by decide) 3 kf_X11_35 (EC_0 X _ _) rfl inA11 (by decide) rfl dX11_drawn_67 ?_
  refine lv_iload_n hx hb dX11_drawn_70 rfl (lv_at hl 1 rfl) ?_
  refine lv_iload_n hx hb dX11_drawn_71 rfl (lv_at hl 2 rfl) ?_
  refine lv_bipush (v := 100) hx hb dX11_drawn_72 (by decide) ?_
  refine lv_idiv hx hb dX11_drawn_74 (by decide) ?_
  refine lv_iload_n hx hb dX11_drawn_75 rfl (lv_at hl 2 rfl) ?_
  refine lv_bipush (v := 100) hx hb dX11_drawn_76 (by decide) ?_
  refine w_irem C (by decide) dX11_drawn_78 ?_
  refine lv_imul hx hb dX11_drawn_79 ?_
  obtain ⟨r8, k9, hf⟩ := bd_some hf
  refine w_goI hw (w_runV (rest := []) C hw (zX6_draw _ _ n st v1 ((v2 / (100 : Int32)) * (rmI v2 (100 : Int32))) r8 k9) (by decide) (EC_24 X _ _) rfl km_X11_336 ki_yX6_draw kv_X6_draw kz_X6 kc_X6_draw rfl ok_yX6_draw ⟨Nat.le_of_ble_eq_true rfl, Nat.le_of_ble_eq_true rfl⟩ rfl rfl rfl rfl hl.1 (Nat.le_of_ble_eq_true rfl) dX11_drawn_80 ⟨Nat.zero_le _, Nat.zero_le _⟩) (fun H locs hw => ?_)
  refine lv_istore (lv' := [(6, .int r8.1), (0, .ref (xq X 0)), (1, .int v1), (2, .int v2), (3, .int v3), (4, .int v4)]) hx hb dX11_drawn_83 hl (by decide) rfl (fun ls hl => ?_)
  refine lv_iload_n hx hb dX11_drawn_85 rfl (lv_at hl 4 rfl) ?_
  refine lv_if_ne (tgt := 94) hx hb dX11_drawn_86 (by decide) (fun c10 => ?_) (fun c10 => ?_)
  · replace hf := ite_f hf c10
    refine lv_aload_n hx hb dX11_drawn_94 rfl (lv_at hl 1 rfl) ?_
    refine w_get (T := TX11) C hw (by decide) 3 kf_X11_35 (EC_0 X _ _) rfl inA11 (by decide) rfl dX11_drawn_95 ?_
    refine lv_iload hx hb dX11_drawn_98 (lv_at hl 5 rfl) ?_
    obtain ⟨r11, k12, hf⟩ := bd_some hf
    refine w_goI hw (w_runV (rest := []) C hw (zX6_owes _ _ n r8.2 v4 r11 k12) (by decide) (EC_24 X _ _) rfl km_X11_234 ki_yX6_owes kv_X6_owes kz_X6 kc_X6_owes rfl ok_yX6_owes ⟨Nat.le_of_ble_eq_true rfl, Nat.le_of_ble_eq_true rfl⟩ rfl rfl rfl rfl hl.1 (Nat.le_of_ble_eq_true rfl) dX11_drawn_100 ⟨Nat.zero_le _, Nat.zero_le _⟩) (fun H locs hw => ?_)
    exact w_iret C hw hr (so2 hf).1 (so2 hf).2 dX11_drawn_103
  · replace hf := ite_t hf c10
    refine lv_iload hx hb dX11_drawn_89 (lv_at hl 0 rfl) ?_
    refine lv_goto (tgt := 103) hx hb dX11_drawn_91 (by decide) ?_
    exact w_iret C hw hr (so2 hf).1 (so2 hf).2 dX11_drawn_103
def fX11_drawn_35 (n : Nat) (st : St) (v1 : Int32) (v2 : Int32) (v3 : Int32) (v4 : Int32) (w0 : Int32) : Option (Int32 × St) := if w0 = 0 then (some ((-1 : Int32), st)) else (if bI (fX11_isWithin v3 (0 : Int32) (1 : Int32)) = 0 then (some ((-1 : Int32), st)) else (if v3 = (1 : Int32) then (if bI (fX11_isPerson v4) = 0 then (some ((-1 : Int32), st)) else (fX11_drawn_66 n st v1 v2 v3 v4)) else (fX11_drawn_66 n st v1 v2 v3 v4)))
set_option maxHeartbeats 4000000 in
theorem tX11_drawn_35 {p : Program} {l : Launch} {e : Env} {s : State} {m : MethodId} {args : Array Value} {below : List Frame} {meth : Method} {c : Code} {X : WX} (C : Amb 65 X p s m args meth c cX11_drawn 7 RX11) (hr : meth.sig.returnType = some .int) {R : Int32 × St} {n : Nat} : ∀ (st : St) (v1 : Int32) (v2 : Int32) (v3 : Int32) (v4 : Int32) (w0 : Int32) (H : Heap) (locs : List Loc) (ls : Array Slot), Wd EC 65 X s.heap st H locs → lv_has ls 7 [(0, .ref (xq X 0)), (1, .int v1), (2, .int v2), (3, .int v3), (4, .int v4)] → fX11_drawn_35 n st v1 v2 v3 v4 w0 = some R → W p l e { frames := 6, cells := 0, slots := 0, locals := 157 } s m args below meth c H locs 0 0 (QI EC 65 X R.1 R.2 below args s) (F0 m 35 ls [.int w0]) := by
  obtain ⟨hx, hb, hml, hown, hts⟩ := id C.1
  intro st v1 v2 v3 v4 w0 H locs ls  hw hl hf
  unfold fX11_drawn_35 at hf
  refine lv_istore (lv' := [(5, .int w0), (0, .ref (xq X 0)), (1, .int v1), (2, .int v2), (3, .int v3), (4, .int v4)]) hx hb dX11_drawn_35 hl (by decide) rfl (fun ls hl => ?_)
  refine lv_iload hx hb dX11_drawn_37 (lv_at hl 0 rfl) ?_
  refine lv_if_eq (tgt := 64) hx hb dX11_drawn_39 (by decide) (fun c4 => ?_) (fun c4 => ?_)
  · replace hf := ite_t hf c4
    refine lv_iconst (v := -1) hx hb dX11_drawn_64 (by decide) ?_
    exact w_iret C hw hr (so2 hf).1 (so2 hf).2 dX11_drawn_65
  · replace hf := ite_f hf c4
    refine lv_iload_n hx hb dX11_drawn_42 rfl (lv_at hl 4 rfl) ?_
    refine lv_iconst (v := 0) hx hb dX11_drawn_43 (by decide) ?_
    refine lv_iconst (v := 1) hx hb dX11_drawn_44 (by decide) ?_
    refine w_goI hw (w_runS (rest := []) C hw (zX11_isWithin _ _ st v3 (0 : Int32) (1 : Int32)) km_X11_117 kt_yX11_isWithin kz_X11 kc_X11_isWithin ok_yX11_isWithin ⟨Nat.le_of_ble_eq_true rfl, Nat.le_of_ble_eq_true rfl⟩ rfl rfl rfl rfl hl.1 (Nat.le_of_ble_eq_true rfl) dX11_drawn_45 ⟨Nat.zero_le _, Nat.zero_le _⟩) (fun H locs hw => ?_)
    refine lv_if_eq (tgt := 64) hx hb dX11_drawn_48 (by decide) (fun c5 => ?_) (fun c5 => ?_)
    · replace hf := ite_t hf c5
      refine lv_iconst (v := -1) hx hb dX11_drawn_64 (by decide) ?_
      exact w_iret C hw hr (so2 hf).1 (so2 hf).2 dX11_drawn_65
    · replace hf := ite_f hf c5
      refine lv_iload_n hx hb dX11_drawn_51 rfl (lv_at hl 4 rfl) ?_
      refine lv_iconst (v := 1) hx hb dX11_drawn_52 (by decide) ?_
      refine lv_icmp_ne (tgt := 66) hx hb dX11_drawn_53 (by decide) (fun c6 => ?_) (fun c6 => ?_)
      · replace hf := ite_f hf c6
        exact tX11_drawn_66 C hr st v1 v2 v3 v4 _ _ _ hw (lv_sub hl [1, 2, 3, 4, 5] rfl) hf
      · replace hf := ite_t hf c6
        refine lv_iload hx hb dX11_drawn_56 (lv_at hl 5 rfl) ?_
        refine w_goI hw (w_runS (rest := []) C hw (zX11_isPerson _ _ st v4) km_X11_151 kt_yX11_isPerson kz_X11 kc_X11_isPerson ok_yX11_isPerson ⟨Nat.le_of_ble_eq_true rfl, Nat.le_of_ble_eq_true rfl⟩ rfl rfl rfl rfl hl.1 (Nat.le_of_ble_eq_true rfl) dX11_drawn_58 ⟨Nat.zero_le _, Nat.zero_le _⟩) (fun H locs hw => ?_)
        refine lv_if_ne (tgt := 66) hx hb dX11_drawn_61 (by decide) (fun c7 => ?_) (fun c7 => ?_)
        · replace hf := ite_f hf c7
          exact tX11_drawn_66 C hr st v1 v2 v3 v4 _ _ _ hw (lv_sub hl [1, 2, 3, 4, 5] rfl) hf
        · replace hf := ite_t hf c7
          refine lv_iconst (v := -1) hx hb dX11_drawn_64 (by decide) ?_
          exact w_iret C hw hr (so2 hf).1 (so2 hf).2 dX11_drawn_65
def fX11_drawn_34 (n : Nat) (st : St) (v1 : Int32) (v2 : Int32) (v3 : Int32) (v4 : Int32) : Option (Int32 × St) := fX11_drawn_35 n st v1 v2 v3 v4 (0 : Int32)
set_option maxHeartbeats 4000000 in
theorem tX11_drawn_34 {p : Program} {l : Launch} {e : Env} {s : State} {m : MethodId} {args : Array Value} {below : List Frame} {meth : Method} {c : Code} {X : WX} (C : Amb 65 X p s m args meth c cX11_drawn 7 RX11) (hr : meth.sig.returnType = some .int) {R : Int32 × St} {n : Nat} : ∀ (st : St) (v1 : Int32) (v2 : Int32) (v3 : Int32) (v4 : Int32) (H : Heap) (locs : List Loc) (ls : Array Slot), Wd EC 65 X s.heap st H locs → lv_has ls 7 [(0, .ref (xq X 0)), (1, .int v1), (2, .int v2), (3, .int v3), (4, .int v4)] → fX11_drawn_34 n st v1 v2 v3 v4 = some R → W p l e { frames := 6, cells := 0, slots := 0, locals := 157 } s m args below meth c H locs 0 0 (QI EC 65 X R.1 R.2 below args s) (F0 m 34 ls []) := by
  obtain ⟨hx, hb, hml, hown, hts⟩ := id C.1
  intro st v1 v2 v3 v4 H locs ls  hw hl hf
  unfold fX11_drawn_34 at hf
  refine lv_iconst (v := 0) hx hb dX11_drawn_34 (by decide) ?_
  exact tX11_drawn_35 C hr st v1 v2 v3 v4 (0 : Int32) _ _ _ hw (lv_sub hl [0, 1, 2, 3, 4] rfl) hf
def fX11_drawn (n : Nat) (st : St) (a1 : Int32) (a2 : Int32) (a3 : Int32) (a4 : Int32) : Option (Int32 × St) := if a2 < 0 then (fX11_drawn_34 n st a1 a2 a3 a4) else (if bI (fX11_isWithin (a2 / (100 : Int32)) (1 : Int32) (30 : Int32)) = 0 then (fX11_drawn_34 n st a1 a2 a3 a4) else (if bI (fX11_isWithin (rmI a2 (100 : Int32)) (1 : Int32) (20 : Int32)) = 0 then (fX11_drawn_34 n st a1 a2 a3 a4) else (fX11_drawn_35 n st a1 a2 a3 a4 (1 : Int32))))
set_option maxHeartbeats 4000000 in
theorem zX11_drawn (l : Launch) (X : WX) (n : Nat) (st : St) (a1 : Int32) (a2 : Int32) (a3 : Int32) (a4 : Int32) (R : Int32 × St) (hf : fX11_drawn n st a1 a2 a3 a4 = some R) : CtI l yX11_drawn cX11_drawn 7 .int ({ frames := 6, cells := 0, slots := 0, locals := 157 }) EC 65 X [.ref (xq X 0), .int a1, .int a2, .int a3, .int a4] st R.1 R.2 := by
  refine ct_in (own := RX11) (by decide +kernel) rfl (Nat.le_of_ble_eq_true rfl) (fun p e s m below meth c C hr hw ls hl => ?_)
  obtain ⟨hx, hb, hml, hown, hts⟩ := id C.1
  have hl : lv_has ls 7 [(0, .ref (xq X 0)), (1, .int a1), (2, .int a2), (3, .int a3), (4, .int a4)] := hl
  unfold fX11_drawn at hf
  refine lv_iload_n hx hb dX11_drawn_0 rfl (lv_at hl 2 rfl) ?_
  refine lv_if_lt (tgt := 34) hx hb dX11_drawn_1 (by decide) (fun c1 => ?_) (fun c1 => ?_)
  · replace hf := ite_t hf c1
    exact tX11_drawn_34 C hr st a1 a2 a3 a4 _ _ _ hw (lv_sub hl [0, 1, 2, 3, 4] rfl) hf
  · replace hf := ite_f hf c1
    refine lv_iload_n hx hb dX11_drawn_4 rfl (lv_at hl 2 rfl) ?_
    refine lv_bipush (v := 100) hx hb dX11_drawn_5 (by decide) ?_
    refine lv_idiv hx hb dX11_drawn_7 (by decide) ?_
    refine lv_iconst (v := 1) hx hb dX11_drawn_8 (by decide) ?_
    refine lv_bipush (v := 30) hx hb dX11_drawn_9 (by decide) ?_
    refine w_goI hw (w_runS (rest := []) C hw (zX11_isWithin _ _ st (a2 / (100 : Int32)) (1 : Int32) (30 : Int32)) km_X11_117 kt_yX11_isWithin kz_X11 kc_X11_isWithin ok_yX11_isWithin ⟨Nat.le_of_ble_eq_true rfl, Nat.le_of_ble_eq_true rfl⟩ rfl rfl rfl rfl hl.1 (Nat.le_of_ble_eq_true rfl) dX11_drawn_11 ⟨Nat.zero_le _, Nat.zero_le _⟩) (fun H locs hw => ?_)
    refine lv_if_eq (tgt := 34) hx hb dX11_drawn_14 (by decide) (fun c2 => ?_) (fun c2 => ?_)
    · replace hf := ite_t hf c2
      exact tX11_drawn_34 C hr st a1 a2 a3 a4 _ _ _ hw (lv_sub hl [0, 1, 2, 3, 4] rfl) hf
    · replace hf := ite_f hf c2
      refine lv_iload_n hx hb dX11_drawn_17 rfl (lv_at hl 2 rfl) ?_
      refine lv_bipush (v := 100) hx hb dX11_drawn_18 (by decide) ?_
      refine w_irem C (by decide) dX11_drawn_20 ?_
      refine lv_iconst (v := 1) hx hb dX11_drawn_21 (by decide) ?_
      refine lv_bipush (v := 20) hx hb dX11_drawn_22 (by decide) ?_
      refine w_goI hw (w_runS (rest := []) C hw (zX11_isWithin _ _ st (rmI a2 (100 : Int32)) (1 : Int32) (20 : Int32)) km_X11_117 kt_yX11_isWithin kz_X11 kc_X11_isWithin ok_yX11_isWithin ⟨Nat.le_of_ble_eq_true rfl, Nat.le_of_ble_eq_true rfl⟩ rfl rfl rfl rfl hl.1 (Nat.le_of_ble_eq_true rfl) dX11_drawn_24 ⟨Nat.zero_le _, Nat.zero_le _⟩) (fun H locs hw => ?_)
      refine lv_if_eq (tgt := 34) hx hb dX11_drawn_27 (by decide) (fun c3 => ?_) (fun c3 => ?_)
      · replace hf := ite_t hf c3
        exact tX11_drawn_34 C hr st a1 a2 a3 a4 _ _ _ hw (lv_sub hl [0, 1, 2, 3, 4] rfl) hf
      · replace hf := ite_f hf c3
        refine lv_iconst (v := 1) hx hb dX11_drawn_30 (by decide) ?_
        refine lv_goto (tgt := 35) hx hb dX11_drawn_31 (by decide) ?_
        exact tX11_drawn_35 C hr st a1 a2 a3 a4 (1 : Int32) _ _ _ hw (lv_sub hl [0, 1, 2, 3, 4] rfl) hf
theorem dX11_find_0 : decode cX11_find 0 = .ok (.aload_n 0, 1) := by decide +kernel
theorem dX11_find_1 : decode cX11_find 1 = .ok (.iload_n 1, 1) := by decide +kernel
theorem dX11_find_2 : decode cX11_find 2 = .ok (.invokevirtual 179, 3) := by decide +kernel
theorem dX11_find_5 : decode cX11_find 5 = .ok (.ifCond .ne 5, 3) := by decide +kernel
theorem dX11_find_8 : decode cX11_find 8 = .ok (.iconst (-1), 1) := by decide +kernel
theorem dX11_find_9 : decode cX11_find 9 = .ok (.ireturn, 1) := by decide +kernel
theorem dX11_find_10 : decode cX11_find 10 = .ok (.aload_n 0, 1) := by decide +kernel
theorem dX11_find_11 : decode cX11_find 11 = .ok (.getfield 67, 3) := by decide +kernel
theorem dX11_find_14 : decode cX11_find 14 = .ok (.getfield 182, 3) := by decide +kernel
theorem dX11_find_17 : decode cX11_find 17 = .ok (.iload_n 1, 1) := by decide +kernel
theorem dX11_find_18 : decode cX11_find 18 = .ok (.ishr, 1) := by decide +kernel
theorem dX11_find_19 : decode cX11_find 19 = .ok (.iconst 1, 1) := by decide +kernel
theorem dX11_find_20 : decode cX11_find 20 = .ok (.iand, 1) := by decide +kernel
theorem dX11_find_21 : decode cX11_find 21 = .ok (.ifCond .eq 6, 3) := by decide +kernel
theorem dX11_find_24 : decode cX11_find 24 = .ok (.bipush (-5), 2) := by decide +kernel
theorem dX11_find_26 : decode cX11_find 26 = .ok (.ireturn, 1) := by decide +kernel
theorem dX11_find_27 : decode cX11_find 27 = .ok (.aload_n 0, 1) := by decide +kernel
theorem dX11_find_28 : decode cX11_find 28 = .ok (.getfield 67, 3) := by decide +kernel
theorem dX11_find_31 : decode cX11_find 31 = .ok (.dup, 1) := by decide +kernel
theorem dX11_find_32 : decode cX11_find 32 = .ok (.getfield 182, 3) := by decide +kernel
theorem dX11_find_35 : decode cX11_find 35 = .ok (.iconst 1, 1) := by decide +kernel
theorem dX11_find_36 : decode cX11_find 36 = .ok (.iload_n 1, 1) := by decide +kernel
theorem dX11_find_37 : decode cX11_find 37 = .ok (.ishl, 1) := by decide +kernel
theorem dX11_find_38 : decode cX11_find 38 = .ok (.ior, 1) := by decide +kernel
theorem dX11_find_39 : decode cX11_find 39 = .ok (.putfield 182, 3) := by decide +kernel
theorem dX11_find_42 : decode cX11_find 42 = .ok (.aload_n 0, 1) := by decide +kernel
theorem dX11_find_43 : decode cX11_find 43 = .ok (.getfield 35, 3) := by decide +kernel
theorem dX11_find_46 : decode cX11_find 46 = .ok (.iload_n 1, 1) := by decide +kernel
theorem dX11_find_47 : decode cX11_find 47 = .ok (.aload_n 0, 1) := by decide +kernel
theorem dX11_find_48 : decode cX11_find 48 = .ok (.getfield 67, 3) := by decide +kernel
theorem dX11_find_51 : decode cX11_find 51 = .ok (.getfield 339, 3) := by decide +kernel
theorem dX11_find_54 : decode cX11_find 54 = .ok (.invokevirtual 340, 3) := by decide +kernel
theorem dX11_find_57 : decode cX11_find 57 = .ok (.ireturn, 1) := by decide +kernel
theorem ok_yX11_find : yOk yX11_find 1 := ⟨by decide +kernel, by decide +kernel, by decide +kernel⟩
def fX11_find (n : Nat) (st : St) (a1 : Int32) : Option (Int32 × St) := if bI (fX11_isFall st a1) = 0 then (some ((-1 : Int32), st)) else (if ((gI st 39 1) >>> (a1 &&& 31)) &&& (1 : Int32) = 0 then (bnd (sI st 39 1 ((gI st 39 1) ||| ((1 : Int32) <<< (a1 &&& 31)))) (fun st3 => (fX6_settle_2 n st3 a1).bind (fun r5 => some (r5.1, r5.2)))) else (some ((-5 : Int32), st)))
set_option maxHeartbeats 4000000 in
theorem zX11_find (l : Launch) (X : WX) (n : Nat) (st : St) (a1 : Int32) (R : Int32 × St) (hf : fX11_find n st a1 = some R) : CtI l yX11_find cX11_find 2 .int ({ frames := 5, cells := 0, slots := 0, locals := 130 }) EC 65 X [.ref (xq X 0), .int a1] st R.1 R.2 := by
  refine ct_in (own := RX11) (by decide +kernel) rfl (Nat.le_of_ble_eq_true rfl) (fun p e s m below meth c C hr hw ls hl => ?_)
  obtain ⟨hx, hb, hml, hown, hts⟩ := id C.1
  have hl : lv_has ls 2 [(0, .ref (xq X 0)), (1, .int a1)] := hl
  unfold fX11_find at hf
  refine lv_aload_n hx hb dX11_find_0 rfl (lv_at hl 0 rfl) ?_
  refine lv_iload_n hx hb dX11_find_1 rfl (lv_at hl 1 rfl) ?_
  refine w_goI hw (w_runV (rest := []) C hw (zX11_isFall _ _ st a1) (by decide) (EC_0 X _ _) rfl km_X11_179 ki_yX11_isFall kv_X11_isFall kz_X11 kc_X11_isFall rfl ok_yX11_isFall ⟨Nat.le_of_ble_eq_true rfl, Nat.le_of_ble_eq_true rfl⟩ rfl rfl rfl rfl hl.1 (Nat.le_of_ble_eq_true rfl) dX11_find_2 ⟨Nat.zero_le _, Nat.zero_le _⟩) (fun H locs hw => ?_)
  refine lv_if_ne (tgt := 10) hx hb dX11_find_5 (by decide) (fun c1 => ?_) (fun c1 => ?_)
  · replace hf := ite_f hf c1
    refine lv_aload_n hx hb dX11_find_10 rfl (lv_at hl 0 rfl) ?_
    refine w_get (T := TX11) C hw (by decide) 7 kf_X11_67 (EC_0 X _ _) rfl inA11 (by decide) rfl dX11_find_11 ?_
    refine w_get (T := TX2) C hw (by decide) 1 kf_X11_182 (EC_39 X _ _) rfl inA2 (by decide) rfl dX11_find_14 ?_
    refine lv_iload_n hx hb dX11_find_17 rfl (lv_at hl 1 rfl) ?_
    refine lv_ishr hx hb dX11_find_18 ?_
    refine lv_iconst (v := 1) hx hb dX11_find_19 (by decide) ?_
    refine lv_iand hx hb dX11_find_20 ?_
    refine lv_if_eq (tgt := 27) hx hb dX11_find_21 (by decide) (fun c2 => ?_) (fun c2 => ?_)
    · replace hf := ite_t hf c2
      refine lv_aload_n hx hb dX11_find_27 rfl (lv_at hl 0 rfl) ?_
      refine w_get (T := TX11) C hw (by decide) 7 kf_X11_67 (EC_0 X _ _) rfl inA11 (by decide) rfl dX11_find_28 ?_
      refine lv_dup hx hb dX11_find_31 rfl ?_
      refine w_get (T := TX2) C hw (by decide) 1 kf_X11_182 (EC_39 X _ _) rfl inA2 (by decide) rfl dX11_find_32 ?_
      refine lv_iconst (v := 1) hx hb dX11_find_35 (by decide) ?_
      refine lv_iload_n hx hb dX11_find_36 rfl (lv_at hl 1 rfl) ?_
      refine lv_ishl hx hb dX11_find_37 ?_
      refine lv_ior hx hb dX11_find_38 ?_
      obtain ⟨st3, es4⟩ : ∃ z : St, z = sI st 39 1 ((gI st 39 1) ||| ((1 : Int32) <<< (a1 &&& 31))) := ⟨_, rfl⟩
      replace hf := bnd_nm hf es4
      refine w_puti (T := TX2) C hw (by decide) 1 kf_X11_182 (EC_39 X _ _) rfl inA2 tyX2_ok nmX2 (by decide) rfl rfl (Nat.le_of_ble_eq_true rfl) rfl dX11_find_39 (fun H locs hw => ?_)
      rw [← es4] at hw
      refine lv_aload_n hx hb dX11_find_42 rfl (lv_at hl 0 rfl) ?_
      refine w_get (T := TX11) C hw (by decide) 3 kf_X11_35 (EC_0 X _ _) rfl inA11 (by decide) rfl dX11_find_43 ?_
      refine lv_iload_n hx hb dX11_find_46 rfl (lv_at hl 1 rfl) ?_
      refine lv_aload_n hx hb dX11_find_47 rfl (lv_at hl 0 rfl) ?_
      refine w_get (T := TX11) C hw (by decide) 7 kf_X11_67 (EC_0 X _ _) rfl inA11 (by decide) rfl dX11_find_48 ?_
      refine w_get (T := TX2) C hw (by decide) 0 kf_X11_339 (EC_39 X _ _) rfl inA2 (by decide) rfl dX11_find_51 ?_
      obtain ⟨r5, k6, hf⟩ := bd_some hf
      refine w_goI hw (w_runV (rest := []) C hw (zX6_settle_2 _ _ n st3 a1 r5 k6) (by decide) (EC_24 X _ _) rfl km_X11_340 ki_yX6_settle kv_X6_settle kz_X6 kc_X6_settle rfl ok_yX6_settle ⟨Nat.le_of_ble_eq_true rfl, Nat.le_of_ble_eq_true rfl⟩ rfl rfl rfl rfl hl.1 (Nat.le_of_ble_eq_true rfl) dX11_find_54 ⟨Nat.zero_le _, Nat.zero_le _⟩) (fun H locs hw => ?_)
      exact w_iret C hw hr (so2 hf).1 (so2 hf).2 dX11_find_57
    · replace hf := ite_f hf c2
      refine lv_bipush (v := -5) hx hb dX11_find_24 (by decide) ?_
      exact w_iret C hw hr (so2 hf).1 (so2 hf).2 dX11_find_26
  · replace hf := ite_t hf c1
    refine lv_iconst (v := -1) hx hb dX11_find_8 (by decide) ?_
    exact w_iret C hw hr (so2 hf).1 (so2 hf).2 dX11_find_9
theorem dX11_pay_0 : decode cX11_pay 0 = .ok (.iload_n 1, 1) := by decide +kernel
theorem dX11_pay_1 : decode cX11_pay 1 = .ok (.invokestatic 228, 3) := by decide +kernel
theorem dX11_pay_4 : decode cX11_pay 4 = .ok (.ifCond .eq 25, 3) := by decide +kernel
theorem dX11_pay_7 : decode cX11_pay 7 = .ok (.iload_n 1, 1) := by decide +kernel
theorem dX11_pay_8 : decode cX11_pay 8 = .ok (.bipush 10, 2) := by decide +kernel
theorem dX11_pay_10 : decode cX11_pay 10 = .ok (.idiv, 1) := by decide +kernel
theorem dX11_pay_11 : decode cX11_pay 11 = .ok (.iload_n 1, 1) := by decide +kernel
theorem dX11_pay_12 : decode cX11_pay 12 = .ok (.bipush 10, 2) := by decide +kernel
theorem dX11_pay_14 : decode cX11_pay 14 = .ok (.irem, 1) := by decide +kernel
theorem dX11_pay_15 : decode cX11_pay 15 = .ok (.if_icmp .eq 14, 3) := by decide +kernel
theorem dX11_pay_18 : decode cX11_pay 18 = .ok (.iload_n 2, 1) := by decide +kernel
theorem dX11_pay_19 : decode cX11_pay 19 = .ok (.iconst 1, 1) := by decide +kernel
theorem dX11_pay_20 : decode cX11_pay 20 = .ok (.sipush 999, 3) := by decide +kernel
theorem dX11_pay_23 : decode cX11_pay 23 = .ok (.invokestatic 117, 3) := by decide +kernel
theorem dX11_pay_26 : decode cX11_pay 26 = .ok (.ifCond .ne 5, 3) := by decide +kernel
theorem dX11_pay_29 : decode cX11_pay 29 = .ok (.iconst (-1), 1) := by decide +kernel
theorem dX11_pay_30 : decode cX11_pay 30 = .ok (.ireturn, 1) := by decide +kernel
theorem dX11_pay_31 : decode cX11_pay 31 = .ok (.iload_n 1, 1) := by decide +kernel
theorem dX11_pay_32 : decode cX11_pay 32 = .ok (.invokestatic 243, 3) := by decide +kernel
theorem dX11_pay_35 : decode cX11_pay 35 = .ok (.istore_n 3, 1) := by decide +kernel
theorem dX11_pay_36 : decode cX11_pay 36 = .ok (.aload_n 0, 1) := by decide +kernel
theorem dX11_pay_37 : decode cX11_pay 37 = .ok (.getfield 67, 3) := by decide +kernel
theorem dX11_pay_40 : decode cX11_pay 40 = .ok (.getfield 339, 3) := by decide +kernel
theorem dX11_pay_43 : decode cX11_pay 43 = .ok (.iload_n 3, 1) := by decide +kernel
theorem dX11_pay_44 : decode cX11_pay 44 = .ok (.iaload, 1) := by decide +kernel
theorem dX11_pay_45 : decode cX11_pay 45 = .ok (.iload_n 2, 1) := by decide +kernel
theorem dX11_pay_46 : decode cX11_pay 46 = .ok (.if_icmp .ge 6, 3) := by decide +kernel
theorem dX11_pay_49 : decode cX11_pay 49 = .ok (.bipush (-5), 2) := by decide +kernel
theorem dX11_pay_51 : decode cX11_pay 51 = .ok (.ireturn, 1) := by decide +kernel
theorem dX11_pay_52 : decode cX11_pay 52 = .ok (.aload_n 0, 1) := by decide +kernel
theorem dX11_pay_53 : decode cX11_pay 53 = .ok (.getfield 67, 3) := by decide +kernel
theorem dX11_pay_56 : decode cX11_pay 56 = .ok (.getfield 339, 3) := by decide +kernel
theorem dX11_pay_59 : decode cX11_pay 59 = .ok (.iload_n 3, 1) := by decide +kernel
theorem dX11_pay_60 : decode cX11_pay 60 = .ok (.dup2, 1) := by decide +kernel
theorem dX11_pay_61 : decode cX11_pay 61 = .ok (.iaload, 1) := by decide +kernel
theorem dX11_pay_62 : decode cX11_pay 62 = .ok (.iload_n 2, 1) := by decide +kernel
theorem dX11_pay_63 : decode cX11_pay 63 = .ok (.isub, 1) := by decide +kernel
theorem dX11_pay_64 : decode cX11_pay 64 = .ok (.iastore, 1) := by decide +kernel
theorem dX11_pay_65 : decode cX11_pay 65 = .ok (.aload_n 0, 1) := by decide +kernel
theorem dX11_pay_66 : decode cX11_pay 66 = .ok (.getfield 67, 3) := by decide +kernel
theorem dX11_pay_69 : decode cX11_pay 69 = .ok (.dup, 1) := by decide +kernel
theorem dX11_pay_70 : decode cX11_pay 70 = .ok (.getfield 344, 3) := by decide +kernel
theorem dX11_pay_73 : decode cX11_pay 73 = .ok (.iconst 1, 1) := by decide +kernel
theorem dX11_pay_74 : decode cX11_pay 74 = .ok (.iadd, 1) := by decide +kernel
theorem dX11_pay_75 : decode cX11_pay 75 = .ok (.putfield 344, 3) := by decide +kernel
theorem dX11_pay_78 : decode cX11_pay 78 = .ok (.aload_n 0, 1) := by decide +kernel
theorem dX11_pay_79 : decode cX11_pay 79 = .ok (.getfield 67, 3) := by decide +kernel
theorem dX11_pay_82 : decode cX11_pay 82 = .ok (.dup, 1) := by decide +kernel
theorem dX11_pay_83 : decode cX11_pay 83 = .ok (.getfield 347, 3) := by decide +kernel
theorem dX11_pay_86 : decode cX11_pay 86 = .ok (.iload_n 2, 1) := by decide +kernel
theorem dX11_pay_87 : decode cX11_pay 87 = .ok (.iadd, 1) := by decide +kernel
theorem dX11_pay_88 : decode cX11_pay 88 = .ok (.putfield 347, 3) := by decide +kernel
theorem dX11_pay_91 : decode cX11_pay 91 = .ok (.aload_n 0, 1) := by decide +kernel
theorem dX11_pay_92 : decode cX11_pay 92 = .ok (.getfield 67, 3) := by decide +kernel
theorem dX11_pay_95 : decode cX11_pay 95 = .ok (.getfield 339, 3) := by decide +kernel
theorem dX11_pay_98 : decode cX11_pay 98 = .ok (.iload_n 3, 1) := by decide +kernel
theorem dX11_pay_99 : decode cX11_pay 99 = .ok (.iaload, 1) := by decide +kernel
theorem dX11_pay_100 : decode cX11_pay 100 = .ok (.ireturn, 1) := by decide +kernel
theorem ok_yX11_pay : yOk yX11_pay 2 := ⟨by decide +kernel, by decide +kernel, by decide +kernel⟩
def fX11_pay (st : St) (a1 : Int32) (a2 : Int32) : Option (Int32 × St) := if bI (fX11_isPair a1) = 0 then (some ((-1 : Int32), st)) else (if a1 / (10 : Int32) = rmI a1 (10 : Int32) then (some ((-1 : Int32), st)) else (if bI (fX11_isWithin a2 (1 : Int32) (999 : Int32)) = 0 then (some ((-1 : Int32), st)) else (bnd ((fX11_debtAt a1)) (fun x4 => gd (inB x4 36) (if a2 ≤ gI st 40 x4.toNatClampNeg then (gd (inB x4 36) (gd (inB x4 36) (bnd (sI st 40 x4.toNatClampNeg ((gI st 40 x4.toNatClampNeg) - a2)) (fun st10 => bnd (sI st10 39 2 ((gI st10 39 2) + (1 : Int32))) (fun st12 => bnd (sI st12 39 3 ((gI st12 39 3) + a2)) (fun st14 => gd (inB x4 36) (some ((gI st14 40 x4.toNatClampNeg), st14)))))))) else (some ((-5 : Int32), st)))))))
set_option maxHeartbeats 4000000 in
theorem zX11_pay (l : Launch) (X : WX) (st : St) (a1 : Int32) (a2 : Int32) (R : Int32 × St) (hf : fX11_pay st a1 a2 = some R) : CtI l yX11_pay cX11_pay 4 .int ({ frames := 3, cells := 0, slots := 0, locals := 62 }) EC 65 X [.ref (xq X 0), .int a1, .int a2] st R.1 R.2 := by
  refine ct_in (own := RX11) (by decide +kernel) rfl (Nat.le_of_ble_eq_true rfl) (fun p e s m below meth c C hr hw ls hl => ?_)
  obtain ⟨hx, hb, hml, hown, hts⟩ := id C.1
  have hl : lv_has ls 4 [(0, .ref (xq X 0)), (1, .int a1), (2, .int a2)] := hl
  unfold fX11_pay at hf
  refine lv_iload_n hx hb dX11_pay_0 rfl (lv_at hl 1 rfl) ?_
  refine w_goI hw (w_runS (rest := []) C hw (zX11_isPair _ _ st a1) km_X11_228 kt_yX11_isPair kz_X11 kc_X11_isPair ok_yX11_isPair ⟨Nat.le_of_ble_eq_true rfl, Nat.le_of_ble_eq_true rfl⟩ rfl rfl rfl rfl hl.1 (Nat.le_of_ble_eq_true rfl) dX11_pay_1 ⟨Nat.zero_le _, Nat.zero_le _⟩) (fun H locs hw => ?_)
  refine lv_if_eq (tgt := 29) hx hb dX11_pay_4 (by decide) (fun c1 => ?_) (fun c1 => ?_)
  · replace hf := ite_t hf c1
    refine lv_iconst (v := -1) hx hb dX11_pay_29 (by decide) ?_
    exact w_iret C hw hr (so2 hf).1 (so2 hf).2 dX11_pay_30
  · replace hf := ite_f hf c1
    refine lv_iload_n hx hb dX11_pay_7 rfl (lv_at hl 1 rfl) ?_
    refine lv_bipush (v := 10) hx hb dX11_pay_8 (by decide) ?_
    refine lv_idiv hx hb dX11_pay_10 (by decide) ?_
    refine lv_iload_n hx hb dX11_pay_11 rfl (lv_at hl 1 rfl) ?_
    refine lv_bipush (v := 10) hx hb dX11_pay_12 (by decide) ?_
    refine w_irem C (by decide) dX11_pay_14 ?_
    refine lv_icmp_eq (tgt := 29) hx hb dX11_pay_15 (by decide) (fun c2 => ?_) (fun c2 => ?_)
    · replace hf := ite_t hf c2
      refine lv_iconst (v := -1) hx hb dX11_pay_29 (by decide) ?_
      exact w_iret C hw hr (so2 hf).1 (so2 hf).2 dX11_pay_30
    · replace hf := ite_f hf c2
      refine lv_iload_n hx hb dX11_pay_18 rfl (lv_at hl 2 rfl) ?_
      refine lv_iconst (v := 1) hx hb dX11_pay_19 (by decide) ?_
      refine lv_sipush (v := 999) hx hb dX11_pay_20 (by decide) ?_
      refine w_goI hw (w_runS (rest := []) C hw (zX11_isWithin _ _ st a2 (1 : Int32) (999 : Int32)) km_X11_117 kt_yX11_isWithin kz_X11 kc_X11_isWithin ok_yX11_isWithin ⟨Nat.le_of_ble_eq_true rfl, Nat.le_of_ble_eq_true rfl⟩ rfl rfl rfl rfl hl.1 (Nat.le_of_ble_eq_true rfl) dX11_pay_23 ⟨Nat.zero_le _, Nat.zero_le _⟩) (fun H locs hw => ?_)
      refine lv_if_ne (tgt := 31) hx hb dX11_pay_26 (by decide) (fun c3 => ?_) (fun c3 => ?_)
      · replace hf := ite_f hf c3
        refine lv_iload_n hx hb dX11_pay_31 rfl (lv_at hl 1 rfl) ?_
        refine w_goI hw (w_runS (rest := []) C hw (zX11_debtAt _ _ st a1) km_X11_243 kt_yX11_debtAt kz_X11 kc_X11_debtAt ok_yX11_debtAt ⟨Nat.le_of_ble_eq_true rfl, Nat.le_of_ble_eq_true rfl⟩ rfl rfl rfl rfl hl.1 (Nat.le_of_ble_eq_true rfl) dX11_pay_32 ⟨Nat.zero_le _, Nat.zero_le _⟩) (fun H locs hw => ?_)
        refine lv_topi (fun x4 e5 => ?_)
        replace hf := bnd_nm hf e5
        refine lv_istore_n (lv' := [(3, .int x4), (0, .ref (xq X 0)), (1, .int a1), (2, .int a2)]) hx hb dX11_pay_35 rfl hl (by decide) rfl (fun ls hl => ?_)
        refine lv_aload_n hx hb dX11_pay_36 rfl (lv_at hl 1 rfl) ?_
        refine w_get (T := TX11) C hw (by decide) 7 kf_X11_67 (EC_0 X _ _) rfl inA11 (by decide) rfl dX11_pay_37 ?_
        refine w_get (T := TX2) C hw (by decide) 0 kf_X11_339 (EC_39 X _ _) rfl inA2 (by decide) rfl dX11_pay_40 ?_
        refine lv_iload_n hx hb dX11_pay_43 rfl (lv_at hl 0 rfl) ?_
        obtain ⟨h6, hf⟩ := gd_some hf
        refine w_iald C hw (by decide) (EC_40 X _ _) h6 rfl dX11_pay_44 ?_
        refine lv_iload_n hx hb dX11_pay_45 rfl (lv_at hl 3 rfl) ?_
        refine lv_icmp_ge (tgt := 52) hx hb dX11_pay_46 (by decide) (fun c7 => ?_) (fun c7 => ?_)
        · replace hf := ite_t hf c7
          refine lv_aload_n hx hb dX11_pay_52 rfl (lv_at hl 1 rfl) ?_
          refine w_get (T := TX11) C hw (by decide) 7 kf_X11_67 (EC_0 X _ _) rfl inA11 (by decide) rfl dX11_pay_53 ?_
          refine w_get (T := TX2) C hw (by decide) 0 kf_X11_339 (EC_39 X _ _) rfl inA2 (by decide) rfl dX11_pay_56 ?_
          refine lv_iload_n hx hb dX11_pay_59 rfl (lv_at hl 0 rfl) ?_
          refine lv_dup2_11 hx hb dX11_pay_60 rfl rfl ?_
          obtain ⟨h8, hf⟩ := gd_some hf
          refine w_iald C hw (by decide) (EC_40 X _ _) h8 rfl dX11_pay_61 ?_
          refine lv_iload_n hx hb dX11_pay_62 rfl (lv_at hl 3 rfl) ?_
          refine lv_isub hx hb dX11_pay_63 ?_
          obtain ⟨h9, hf⟩ := gd_some hf
          obtain ⟨st10, es11⟩ : ∃ z : St, z = sI st 40 x4.toNatClampNeg ((gI st 40 x4.toNatClampNeg) - a2) := ⟨_, rfl⟩
          replace hf := bnd_nm hf es11
          refine w_iast C hw (by decide) (fun f9 => EC_40 X f9 _) h9 rfl dX11_pay_64 (fun H locs hw => ?_)
          rw [← es11] at hw
          refine lv_aload_n hx hb dX11_pay_65 rfl (lv_at hl 1 rfl) ?_
          refine w_get (T := TX11) C hw (by decide) 7 kf_X11_67 (EC_0 X _ _) rfl inA11 (by decide) rfl dX11_pay_66 ?_
          refine lv_dup hx hb dX11_pay_69 rfl ?_
          refine w_get (T := TX2) C hw (by decide) 2 kf_X11_344 (EC_39 X _ _) rfl inA2 (by decide) rfl dX11_pay_70 ?_
          refine lv_iconst (v := 1) hx hb dX11_pay_73 (by decide) ?_
          refine lv_iadd hx hb dX11_pay_74 ?_
          obtain ⟨st12, es13⟩ : ∃ z : St, z = sI st10 39 2 ((gI st10 39 2) + (1 : Int32)) := ⟨_, rfl⟩
          replace hf := bnd_nm hf es13
          refine w_puti (T := TX2) C hw (by decide) 2 kf_X11_344 (EC_39 X _ _) rfl inA2 tyX2_ok nmX2 (by decide) rfl rfl (Nat.le_of_ble_eq_true rfl) rfl dX11_pay_75 (fun H locs hw => ?_)
          rw [← es13] at hw
          refine lv_aload_n hx hb dX11_pay_78 rfl (lv_at hl 1 rfl) ?_
          refine w_get (T := TX11) C hw (by decide) 7 kf_X11_67 (EC_0 X _ _) rfl inA11 (by decide) rfl dX11_pay_79 ?_
          refine lv_dup hx hb dX11_pay_82 rfl ?_
          refine w_get (T := TX2) C hw (by decide) 3 kf_X11_347 (EC_39 X _ _) rfl inA2 (by decide) rfl dX11_pay_83 ?_
          refine lv_iload_n hx hb dX11_pay_86 rfl (lv_at hl 3 rfl) ?_
          refine lv_iadd hx hb dX11_pay_87 ?_
          obtain ⟨st14, es15⟩ : ∃ z : St, z = sI st12 39 3 ((gI st12 39 3) + a2) := ⟨_, rfl⟩
          replace hf := bnd_nm hf es15
          refine w_puti (T := TX2) C hw (by decide) 3 kf_X11_347 (EC_39 X _ _) rfl inA2 tyX2_ok nmX2 (by decide) rfl rfl (Nat.le_of_ble_eq_true rfl) rfl dX11_pay_88 (fun H locs hw => ?_)
          rw [← es15] at hw
          refine lv_aload_n hx hb dX11_pay_91 rfl (lv_at hl 1 rfl) ?_
          refine w_get (T := TX11) C hw (by decide) 7 kf_X11_67 (EC_0 X _ _) rfl inA11 (by decide) rfl dX11_pay_92 ?_
          refine w_get (T := TX2) C hw (by decide) 0 kf_X11_339 (EC_39 X _ _) rfl inA2 (by decide) rfl dX11_pay_95 ?_
          refine lv_iload_n hx hb dX11_pay_98 rfl (lv_at hl 0 rfl) ?_
          obtain ⟨h16, hf⟩ := gd_some hf
          refine w_iald C hw (by decide) (EC_40 X _ _) h16 rfl dX11_pay_99 ?_
          exact w_iret C hw hr (so2 hf).1 (so2 hf).2 dX11_pay_100
        · replace hf := ite_f hf c7
          refine lv_bipush (v := -5) hx hb dX11_pay_49 (by decide) ?_
          exact w_iret C hw hr (so2 hf).1 (so2 hf).2 dX11_pay_51
      · replace hf := ite_t hf c3
        refine lv_iconst (v := -1) hx hb dX11_pay_29 (by decide) ?_
        exact w_iret C hw hr (so2 hf).1 (so2 hf).2 dX11_pay_30
theorem dX11_give_0 : decode cX11_give 0 = .ok (.aload_n 0, 1) := by decide +kernel
theorem dX11_give_1 : decode cX11_give 1 = .ok (.iload_n 1, 1) := by decide +kernel
theorem dX11_give_2 : decode cX11_give 2 = .ok (.invokevirtual 262, 3) := by decide +kernel
theorem dX11_give_5 : decode cX11_give 5 = .ok (.ifCond .eq 12, 3) := by decide +kernel
theorem dX11_give_8 : decode cX11_give 8 = .ok (.iload_n 2, 1) := by decide +kernel
theorem dX11_give_9 : decode cX11_give 9 = .ok (.iconst (-1), 1) := by decide +kernel
theorem dX11_give_10 : decode cX11_give 10 = .ok (.iconst 5, 1) := by decide +kernel
theorem dX11_give_11 : decode cX11_give 11 = .ok (.invokestatic 117, 3) := by decide +kernel
theorem dX11_give_14 : decode cX11_give 14 = .ok (.ifCond .ne 6, 3) := by decide +kernel
theorem dX11_give_17 : decode cX11_give 17 = .ok (.ldc 170, 2) := by decide +kernel
theorem dX11_give_19 : decode cX11_give 19 = .ok (.ireturn, 1) := by decide +kernel
theorem dX11_give_20 : decode cX11_give 20 = .ok (.aload_n 0, 1) := by decide +kernel
theorem dX11_give_21 : decode cX11_give 21 = .ok (.getfield 10, 3) := by decide +kernel
theorem dX11_give_24 : decode cX11_give 24 = .ok (.getfield 171, 3) := by decide +kernel
theorem dX11_give_27 : decode cX11_give 27 = .ok (.iconst 4, 1) := by decide +kernel
theorem dX11_give_28 : decode cX11_give 28 = .ok (.aaload, 1) := by decide +kernel
theorem dX11_give_29 : decode cX11_give 29 = .ok (.iload_n 1, 1) := by decide +kernel
theorem dX11_give_30 : decode cX11_give 30 = .ok (.iaload, 1) := by decide +kernel
theorem dX11_give_31 : decode cX11_give 31 = .ok (.istore_n 3, 1) := by decide +kernel
theorem dX11_give_32 : decode cX11_give 32 = .ok (.aload_n 0, 1) := by decide +kernel
theorem dX11_give_33 : decode cX11_give 33 = .ok (.getfield 10, 3) := by decide +kernel
theorem dX11_give_36 : decode cX11_give 36 = .ok (.getfield 171, 3) := by decide +kernel
theorem dX11_give_39 : decode cX11_give 39 = .ok (.iconst 4, 1) := by decide +kernel
theorem dX11_give_40 : decode cX11_give 40 = .ok (.aaload, 1) := by decide +kernel
theorem dX11_give_41 : decode cX11_give 41 = .ok (.iload_n 1, 1) := by decide +kernel
theorem dX11_give_42 : decode cX11_give 42 = .ok (.iload_n 2, 1) := by decide +kernel
theorem dX11_give_43 : decode cX11_give 43 = .ok (.iastore, 1) := by decide +kernel
theorem dX11_give_44 : decode cX11_give 44 = .ok (.aload_n 0, 1) := by decide +kernel
theorem dX11_give_45 : decode cX11_give 45 = .ok (.getfield 67, 3) := by decide +kernel
theorem dX11_give_48 : decode cX11_give 48 = .ok (.dup, 1) := by decide +kernel
theorem dX11_give_49 : decode cX11_give 49 = .ok (.getfield 350, 3) := by decide +kernel
theorem dX11_give_52 : decode cX11_give 52 = .ok (.iconst 1, 1) := by decide +kernel
theorem dX11_give_53 : decode cX11_give 53 = .ok (.iadd, 1) := by decide +kernel
theorem dX11_give_54 : decode cX11_give 54 = .ok (.putfield 350, 3) := by decide +kernel
theorem dX11_give_57 : decode cX11_give 57 = .ok (.iload_n 3, 1) := by decide +kernel
theorem dX11_give_58 : decode cX11_give 58 = .ok (.ireturn, 1) := by decide +kernel
theorem ok_yX11_give : yOk yX11_give 2 := ⟨by decide +kernel, by decide +kernel, by decide +kernel⟩
def fX11_give (st : St) (a1 : Int32) (a2 : Int32) : Option (Int32 × St) := if bI (fX11_isField st a1) = 0 then (some ((-2000000000 : Int32), st)) else (if bI (fX11_isWithin a2 (-1 : Int32) (5 : Int32)) = 0 then (some ((-2000000000 : Int32), st)) else (gd (inB a1 13) (bnd (gI st 7 a1.toNatClampNeg) (fun x4 => gd (inB a1 13) (bnd (sI st 7 a1.toNatClampNeg a2) (fun st7 => bnd (sI st7 39 4 ((gI st7 39 4) + (1 : Int32))) (fun st9 => some (x4, st9))))))))
set_option maxHeartbeats 4000000 in
theorem zX11_give (l : Launch) (X : WX) (st : St) (a1 : Int32) (a2 : Int32) (R : Int32 × St) (hf : fX11_give st a1 a2 = some R) : CtI l yX11_give cX11_give 4 .int ({ frames := 2, cells := 0, slots := 0, locals := 43 }) EC 65 X [.ref (xq X 0), .int a1, .int a2] st R.1 R.2 := by
  refine ct_in (own := RX11) (by decide +kernel) rfl (Nat.le_of_ble_eq_true rfl) (fun p e s m below meth c C hr hw ls hl => ?_)
  obtain ⟨hx, hb, hml, hown, hts⟩ := id C.1
  have hl : lv_has ls 4 [(0, .ref (xq X 0)), (1, .int a1), (2, .int a2)] := hl
  unfold fX11_give at hf
  refine lv_aload_n hx hb dX11_give_0 rfl (lv_at hl 0 rfl) ?_
  refine lv_iload_n hx hb dX11_give_1 rfl (lv_at hl 1 rfl) ?_
  refine w_goI hw (w_runV (rest := []) C hw (zX11_isField _ _ st a1) (by decide) (EC_0 X _ _) rfl km_X11_262 ki_yX11_isField kv_X11_isField kz_X11 kc_X11_isField rfl ok_yX11_isField ⟨Nat.le_of_ble_eq_true rfl, Nat.le_of_ble_eq_true rfl⟩ rfl rfl rfl rfl hl.1 (Nat.le_of_ble_eq_true rfl) dX11_give_2 ⟨Nat.zero_le _, Nat.zero_le _⟩) (fun H locs hw => ?_)
  refine lv_if_eq (tgt := 17) hx hb dX11_give_5 (by decide) (fun c1 => ?_) (fun c1 => ?_)
  · replace hf := ite_t hf c1
    refine lv_ldc (v := -2000000000) hx hb hown (hts _ kn_X11_170) dX11_give_17 ?_
    exact w_iret C hw hr (so2 hf).1 (so2 hf).2 dX11_give_19
  · replace hf := ite_f hf c1
    refine lv_iload_n hx hb dX11_give_8 rfl (lv_at hl 2 rfl) ?_
    refine lv_iconst (v := -1) hx hb dX11_give_9 (by decide) ?_
    refine lv_iconst (v := 5) hx hb dX11_give_10 (by decide) ?_
    refine w_goI hw (w_runS (rest := []) C hw (zX11_isWithin _ _ st a2 (-1 : Int32) (5 : Int32)) km_X11_117 kt_yX11_isWithin kz_X11 kc_X11_isWithin ok_yX11_isWithin ⟨Nat.le_of_ble_eq_true rfl, Nat.le_of_ble_eq_true rfl⟩ rfl rfl rfl rfl hl.1 (Nat.le_of_ble_eq_true rfl) dX11_give_11 ⟨Nat.zero_le _, Nat.zero_le _⟩) (fun H locs hw => ?_)
    refine lv_if_ne (tgt := 20) hx hb dX11_give_14 (by decide) (fun c2 => ?_) (fun c2 => ?_)
    · replace hf := ite_f hf c2
      refine lv_aload_n hx hb dX11_give_20 rfl (lv_at hl 0 rfl) ?_
      refine w_get (T := TX11) C hw (by decide) 0 kf_X11_10 (EC_0 X _ _) rfl inA11 (by decide) rfl dX11_give_21 ?_
      refine w_get (T := TX3) C hw (by decide) 0 kf_X11_171 (EC_1 X _ _) rfl inA3 (by decide) rfl dX11_give_24 ?_
      refine lv_iconst (v := 4) hx hb dX11_give_27 (by decide) ?_
      refine w_aald (k' := 7) C hw (by decide) (EC_2 X _ _) rfl rfl (by decide) rfl dX11_give_28 ?_
      refine lv_iload_n hx hb dX11_give_29 rfl (lv_at hl 1 rfl) ?_
      obtain ⟨h3, hf⟩ := gd_some hf
      refine w_iald C hw (by decide) (EC_7 X _ _) h3 rfl dX11_give_30 ?_
      refine lv_topi (fun x4 e5 => ?_)
      replace hf := bnd_nm hf e5
      refine lv_istore_n (lv' := [(3, .int x4), (0, .ref (xq X 0)), (1, .int a1), (2, .int a2)]) hx hb dX11_give_31 rfl hl (by decide) rfl (fun ls hl => ?_)
      refine lv_aload_n hx hb dX11_give_32 rfl (lv_at hl 1 rfl) ?_
      refine w_get (T := TX11) C hw (by decide) 0 kf_X11_10 (EC_0 X _ _) rfl inA11 (by decide) rfl dX11_give_33 ?_
      refine w_get (T := TX3) C hw (by decide) 0 kf_X11_171 (EC_1 X _ _) rfl inA3 (by decide) rfl dX11_give_36 ?_
      refine lv_iconst (v := 4) hx hb dX11_give_39 (by decide) ?_
      refine w_aald (k' := 7) C hw (by decide) (EC_2 X _ _) rfl rfl (by decide) rfl dX11_give_40 ?_
      refine lv_iload_n hx hb dX11_give_41 rfl (lv_at hl 2 rfl) ?_
      refine lv_iload_n hx hb dX11_give_42 rfl (lv_at hl 3 rfl) ?_
      obtain ⟨h6, hf⟩ := gd_some hf
      obtain ⟨st7, es8⟩ : ∃ z : St, z = sI st 7 a1.toNatClampNeg a2 := ⟨_, rfl⟩
      replace hf := bnd_nm hf es8
      refine w_iast C hw (by decide) (fun f9 => EC_7 X f9 _) h6 rfl dX11_give_43 (fun H locs hw => ?_)
      rw [← es8] at hw
      refine lv_aload_n hx hb dX11_give_44 rfl (lv_at hl 1 rfl) ?_
      refine w_get (T := TX11) C hw (by decide) 7 kf_X11_67 (EC_0 X _ _) rfl inA11 (by decide) rfl dX11_give_45 ?_
      refine lv_dup hx hb dX11_give_48 rfl ?_
      refine w_get (T := TX2) C hw (by decide) 4 kf_X11_350 (EC_39 X _ _) rfl inA2 (by decide) rfl dX11_give_49 ?_
      refine lv_iconst (v := 1) hx hb dX11_give_52 (by decide) ?_
      refine lv_iadd hx hb dX11_give_53 ?_
      obtain ⟨st9, es10⟩ : ∃ z : St, z = sI st7 39 4 ((gI st7 39 4) + (1 : Int32)) := ⟨_, rfl⟩
      replace hf := bnd_nm hf es10
      refine w_puti (T := TX2) C hw (by decide) 4 kf_X11_350 (EC_39 X _ _) rfl inA2 tyX2_ok nmX2 (by decide) rfl rfl (Nat.le_of_ble_eq_true rfl) rfl dX11_give_54 (fun H locs hw => ?_)
      rw [← es10] at hw
      refine lv_iload_n hx hb dX11_give_57 rfl (lv_at hl 0 rfl) ?_
      exact w_iret C hw hr (so2 hf).1 (so2 hf).2 dX11_give_58
    · replace hf := ite_t hf c2
      refine lv_ldc (v := -2000000000) hx hb hown (hts _ kn_X11_170) dX11_give_17 ?_
      exact w_iret C hw hr (so2 hf).1 (so2 hf).2 dX11_give_19
theorem dX11_led_0 : decode cX11_led 0 = .ok (.iload_n 1, 1) := by decide +kernel
theorem dX11_led_1 : decode cX11_led 1 = .ok (.tableswitch 66 0 3 #[31, 42, 50, 58], 31) := by decide +kernel
theorem dX11_led_32 : decode cX11_led 32 = .ok (.aload_n 0, 1) := by decide +kernel
theorem dX11_led_33 : decode cX11_led 33 = .ok (.getfield 67, 3) := by decide +kernel
theorem dX11_led_36 : decode cX11_led 36 = .ok (.getfield 182, 3) := by decide +kernel
theorem dX11_led_39 : decode cX11_led 39 = .ok (.invokestatic 291, 3) := by decide +kernel
theorem dX11_led_42 : decode cX11_led 42 = .ok (.ireturn, 1) := by decide +kernel
theorem dX11_led_43 : decode cX11_led 43 = .ok (.aload_n 0, 1) := by decide +kernel
theorem dX11_led_44 : decode cX11_led 44 = .ok (.getfield 67, 3) := by decide +kernel
theorem dX11_led_47 : decode cX11_led 47 = .ok (.getfield 344, 3) := by decide +kernel
theorem dX11_led_50 : decode cX11_led 50 = .ok (.ireturn, 1) := by decide +kernel
theorem dX11_led_51 : decode cX11_led 51 = .ok (.aload_n 0, 1) := by decide +kernel
theorem dX11_led_52 : decode cX11_led 52 = .ok (.getfield 67, 3) := by decide +kernel
theorem dX11_led_55 : decode cX11_led 55 = .ok (.getfield 347, 3) := by decide +kernel
theorem dX11_led_58 : decode cX11_led 58 = .ok (.ireturn, 1) := by decide +kernel
theorem dX11_led_59 : decode cX11_led 59 = .ok (.aload_n 0, 1) := by decide +kernel
theorem dX11_led_60 : decode cX11_led 60 = .ok (.getfield 67, 3) := by decide +kernel
theorem dX11_led_63 : decode cX11_led 63 = .ok (.getfield 350, 3) := by decide +kernel
theorem dX11_led_66 : decode cX11_led 66 = .ok (.ireturn, 1) := by decide +kernel
theorem dX11_led_67 : decode cX11_led 67 = .ok (.iload_n 1, 1) := by decide +kernel
theorem dX11_led_68 : decode cX11_led 68 = .ok (.bipush 100, 2) := by decide +kernel
theorem dX11_led_70 : decode cX11_led 70 = .ok (.if_icmp .lt 31, 3) := by decide +kernel
theorem dX11_led_73 : decode cX11_led 73 = .ok (.iload_n 1, 1) := by decide +kernel
theorem dX11_led_74 : decode cX11_led 74 = .ok (.bipush 100, 2) := by decide +kernel
theorem dX11_led_76 : decode cX11_led 76 = .ok (.isub, 1) := by decide +kernel
theorem dX11_led_77 : decode cX11_led 77 = .ok (.invokestatic 228, 3) := by decide +kernel
theorem dX11_led_80 : decode cX11_led 80 = .ok (.ifCond .eq 21, 3) := by decide +kernel
theorem dX11_led_83 : decode cX11_led 83 = .ok (.aload_n 0, 1) := by decide +kernel
theorem dX11_led_84 : decode cX11_led 84 = .ok (.getfield 67, 3) := by decide +kernel
theorem dX11_led_87 : decode cX11_led 87 = .ok (.getfield 339, 3) := by decide +kernel
theorem dX11_led_90 : decode cX11_led 90 = .ok (.iload_n 1, 1) := by decide +kernel
theorem dX11_led_91 : decode cX11_led 91 = .ok (.bipush 100, 2) := by decide +kernel
theorem dX11_led_93 : decode cX11_led 93 = .ok (.isub, 1) := by decide +kernel
theorem dX11_led_94 : decode cX11_led 94 = .ok (.invokestatic 243, 3) := by decide +kernel
theorem dX11_led_97 : decode cX11_led 97 = .ok (.iaload, 1) := by decide +kernel
theorem dX11_led_98 : decode cX11_led 98 = .ok (.goto 4, 3) := by decide +kernel
theorem dX11_led_101 : decode cX11_led 101 = .ok (.iconst (-1), 1) := by decide +kernel
theorem dX11_led_102 : decode cX11_led 102 = .ok (.ireturn, 1) := by decide +kernel
theorem ok_yX11_led : yOk yX11_led 1 := ⟨by decide +kernel, by decide +kernel, by decide +kernel⟩
def fX11_led (st : St) (a1 : Int32) : Option (Int32) := if a1 = 0 then (some (fJ6_bitCount_0f7a4 (gI st 39 1))) else (if a1 = 1 then (some (gI st 39 2)) else (if a1 = 2 then (some (gI st 39 3)) else (if a1 = 3 then (some (gI st 39 4)) else (if a1 < (100 : Int32) then (some (-1 : Int32)) else (if bI (fX11_isPair (a1 - (100 : Int32))) = 0 then (some (-1 : Int32)) else (gd (inB (fX11_debtAt (a1 - (100 : Int32))) 36) (some (gI st 40 (fX11_debtAt (a1 - (100 : Int32))).toNatClampNeg))))))))
set_option maxHeartbeats 4000000 in
theorem zX11_led (l : Launch) (X : WX) (st : St) (a1 : Int32) (R : Int32) (hf : fX11_led st a1 = some R) : CtI l yX11_led cX11_led 2 .int ({ frames := 3, cells := 0, slots := 0, locals := 62 }) EC 65 X [.ref (xq X 0), .int a1] st R st := by
  refine ct_in (own := RX11) (by decide +kernel) rfl (Nat.le_of_ble_eq_true rfl) (fun p e s m below meth c C hr hw ls hl => ?_)
  obtain ⟨hx, hb, hml, hown, hts⟩ := id C.1
  have hl : lv_has ls 2 [(0, .ref (xq X 0)), (1, .int a1)] := hl
  unfold fX11_led at hf
  refine lv_iload_n hx hb dX11_led_0 rfl (lv_at hl 1 rfl) ?_
  by_cases c1 : a1 = 0
  · replace hf := ite_t hf c1
    refine lv_tableIn (tgt := 32) hx hb dX11_led_1 (by rw [c1]; decide) (by rw [c1]; decide) (by rw [c1]; rfl) (by decide) ?_
    refine lv_aload_n hx hb dX11_led_32 rfl (lv_at hl 0 rfl) ?_
    refine w_get (T := TX11) C hw (by decide) 7 kf_X11_67 (EC_0 X _ _) rfl inA11 (by decide) rfl dX11_led_33 ?_
    refine w_get (T := TX2) C hw (by decide) 1 kf_X11_182 (EC_39 X _ _) rfl inA2 (by decide) rfl dX11_led_36 ?_
    refine w_goI hw (w_runS (rest := []) C hw (zJ6_bitCount_0f7a4 _ _ st (gI st 39 1)) km_X11_291 kt_yJ6_bitCount_0f7a4 kz_J6 kc_J6_bitCount_0f7a4 ok_yJ6_bitCount_0f7a4 ⟨Nat.le_of_ble_eq_true rfl, Nat.le_of_ble_eq_true rfl⟩ rfl rfl rfl rfl hl.1 (Nat.le_of_ble_eq_true rfl) dX11_led_39 ⟨Nat.zero_le _, Nat.zero_le _⟩) (fun H locs hw => ?_)
    exact w_iret C hw hr (Option.some.inj hf) rfl dX11_led_42
  · replace hf := ite_f hf c1
    by_cases c2 : a1 = 1
    · replace hf := ite_t hf c2
      refine lv_tableIn (tgt := 43) hx hb dX11_led_1 (by rw [c2]; decide) (by rw [c2]; decide) (by rw [c2]; rfl) (by decide) ?_
      refine lv_aload_n hx hb dX11_led_43 rfl (lv_at hl 0 rfl) ?_
      refine w_get (T := TX11) C hw (by decide) 7 kf_X11_67 (EC_0 X _ _) rfl inA11 (by decide) rfl dX11_led_44 ?_
      refine w_get (T := TX2) C hw (by decide) 2 kf_X11_344 (EC_39 X _ _) rfl inA2 (by decide) rfl dX11_led_47 ?_
      exact w_iret C hw hr (Option.some.inj hf) rfl dX11_led_50
    · replace hf := ite_f hf c2
      by_cases c3 : a1 = 2
      · replace hf := ite_t hf c3
        refine lv_tableIn (tgt := 51) hx hb dX11_led_1 (by rw [c3]; decide) (by rw [c3]; decide) (by rw [c3]; rfl) (by decide) ?_
        refine lv_aload_n hx hb dX11_led_51 rfl (lv_at hl 0 rfl) ?_
        refine w_get (T := TX11) C hw (by decide) 7 kf_X11_67 (EC_0 X _ _) rfl inA11 (by decide) rfl dX11_led_52 ?_
        refine w_get (T := TX2) C hw (by decide) 3 kf_X11_347 (EC_39 X _ _) rfl inA2 (by decide) rfl dX11_led_55 ?_
        exact w_iret C hw hr (Option.some.inj hf) rfl dX11_led_58
      · replace hf := ite_f hf c3
        by_cases c4 : a1 = 3
        · replace hf := ite_t hf c4
          refine lv_tableIn (tgt := 59) hx hb dX11_led_1 (by rw [c4]; decide) (by rw [c4]; decide) (by rw [c4]; rfl) (by decide) ?_
          refine lv_aload_n hx hb dX11_led_59 rfl (lv_at hl 0 rfl) ?_
          refine w_get (T := TX11) C hw (by decide) 7 kf_X11_67 (EC_0 X _ _) rfl inA11 (by decide) rfl dX11_led_60 ?_
          refine w_get (T := TX2) C hw (by decide) 4 kf_X11_350 (EC_39 X _ _) rfl inA2 (by decide) rfl dX11_led_63 ?_
          exact w_iret C hw hr (Option.some.inj hf) rfl dX11_led_66
        · replace hf := ite_f hf c4
          refine lv_tableOut (tgt := 67) hx hb dX11_led_1 (by have q0 := ne_toInt (a := 0) c1 (by decide); have q1 := ne_toInt (a := 1) c2 (by decide); have q2 := ne_toInt (a := 2) c3 (by decide); have q3 := ne_toInt (a := 3) c4 (by decide); omega) (by decide) ?_
          refine lv_iload_n hx hb dX11_led_67 rfl (lv_at hl 1 rfl) ?_
          refine lv_bipush (v := 100) hx hb dX11_led_68 (by decide) ?_
          refine lv_icmp_lt (tgt := 101) hx hb dX11_led_70 (by decide) (fun c5 => ?_) (fun c5 => ?_)
          · replace hf := ite_t hf c5
            refine lv_iconst (v := -1) hx hb dX11_led_101 (by decide) ?_
            exact w_iret C hw hr (Option.some.inj hf) rfl dX11_led_102
          · replace hf := ite_f hf c5
            refine lv_iload_n hx hb dX11_led_73 rfl (lv_at hl 1 rfl) ?_
            refine lv_bipush (v := 100) hx hb dX11_led_74 (by decide) ?_
            refine lv_isub hx hb dX11_led_76 ?_
            refine w_goI hw (w_runS (rest := []) C hw (zX11_isPair _ _ st (a1 - (100 : Int32))) km_X11_228 kt_yX11_isPair kz_X11 kc_X11_isPair ok_yX11_isPair ⟨Nat.le_of_ble_eq_true rfl, Nat.le_of_ble_eq_true rfl⟩ rfl rfl rfl rfl hl.1 (Nat.le_of_ble_eq_true rfl) dX11_led_77 ⟨Nat.zero_le _, Nat.zero_le _⟩) (fun H locs hw => ?_)
            refine lv_if_eq (tgt := 101) hx hb dX11_led_80 (by decide) (fun c6 => ?_) (fun c6 => ?_)
            · replace hf := ite_t hf c6
              refine lv_iconst (v := -1) hx hb dX11_led_101 (by decide) ?_
              exact w_iret C hw hr (Option.some.inj hf) rfl dX11_led_102
            · replace hf := ite_f hf c6
              refine lv_aload_n hx hb dX11_led_83 rfl (lv_at hl 0 rfl) ?_
              refine w_get (T := TX11) C hw (by decide) 7 kf_X11_67 (EC_0 X _ _) rfl inA11 (by decide) rfl dX11_led_84 ?_
              refine w_get (T := TX2) C hw (by decide) 0 kf_X11_339 (EC_39 X _ _) rfl inA2 (by decide) rfl dX11_led_87 ?_
              refine lv_iload_n hx hb dX11_led_90 rfl (lv_at hl 1 rfl) ?_
              refine lv_bipush (v := 100) hx hb dX11_led_91 (by decide) ?_
              refine lv_isub hx hb dX11_led_93 ?_
              refine w_goI hw (w_runS (rest := [.ref (xq X 40)]) C hw (zX11_debtAt _ _ st (a1 - (100 : Int32))) km_X11_243 kt_yX11_debtAt kz_X11 kc_X11_debtAt ok_yX11_debtAt ⟨Nat.le_of_ble_eq_true rfl, Nat.le_of_ble_eq_true rfl⟩ rfl rfl rfl rfl hl.1 (Nat.le_of_ble_eq_true rfl) dX11_led_94 ⟨Nat.zero_le _, Nat.zero_le _⟩) (fun H locs hw => ?_)
              obtain ⟨h7, hf⟩ := gd_some hf
              refine w_iald C hw (by decide) (EC_40 X _ _) h7 rfl dX11_led_97 ?_
              refine lv_goto (tgt := 102) hx hb dX11_led_98 (by decide) ?_
              exact w_iret C hw hr (Option.some.inj hf) rfl dX11_led_102
theorem dX11_image_0 : decode cX11_image 0 = .ok (.aload_n 0, 1) := by decide +kernel
theorem dX11_image_1 : decode cX11_image 1 = .ok (.getfield 71, 3) := by decide +kernel
theorem dX11_image_4 : decode cX11_image 4 = .ok (.aload_n 0, 1) := by decide +kernel
theorem dX11_image_5 : decode cX11_image 5 = .ok (.getfield 67, 3) := by decide +kernel
theorem dX11_image_8 : decode cX11_image 8 = .ok (.invokevirtual 353, 3) := by decide +kernel
theorem dX11_image_11 : decode cX11_image 11 = .ok (.aload_n 0, 1) := by decide +kernel
theorem dX11_image_12 : decode cX11_image 12 = .ok (.aload_n 0, 1) := by decide +kernel
theorem dX11_image_13 : decode cX11_image 13 = .ok (.getfield 10, 3) := by decide +kernel
theorem dX11_image_16 : decode cX11_image 16 = .ok (.getfield 110, 3) := by decide +kernel
theorem dX11_image_19 : decode cX11_image 19 = .ok (.putfield 78, 3) := by decide +kernel
theorem dX11_image_22 : decode cX11_image 22 = .ok (.aload_n 0, 1) := by decide +kernel
theorem dX11_image_23 : decode cX11_image 23 = .ok (.getfield 10, 3) := by decide +kernel
theorem dX11_image_26 : decode cX11_image 26 = .ok (.getfield 171, 3) := by decide +kernel
theorem dX11_image_29 : decode cX11_image 29 = .ok (.iconst 4, 1) := by decide +kernel
theorem dX11_image_30 : decode cX11_image 30 = .ok (.aaload, 1) := by decide +kernel
theorem dX11_image_31 : decode cX11_image 31 = .ok (.iconst 0, 1) := by decide +kernel
theorem dX11_image_32 : decode cX11_image 32 = .ok (.aload_n 0, 1) := by decide +kernel
theorem dX11_image_33 : decode cX11_image 33 = .ok (.getfield 74, 3) := by decide +kernel
theorem dX11_image_36 : decode cX11_image 36 = .ok (.iconst 0, 1) := by decide +kernel
theorem dX11_image_37 : decode cX11_image 37 = .ok (.aload_n 0, 1) := by decide +kernel
theorem dX11_image_38 : decode cX11_image 38 = .ok (.getfield 78, 3) := by decide +kernel
theorem dX11_image_41 : decode cX11_image 41 = .ok (.invokestatic 357, 3) := by decide +kernel
theorem dX11_image_44 : decode cX11_image 44 = .ok (.aload_n 0, 1) := by decide +kernel
theorem dX11_image_45 : decode cX11_image 45 = .ok (.getfield 67, 3) := by decide +kernel
theorem dX11_image_48 : decode cX11_image 48 = .ok (.getfield 182, 3) := by decide +kernel
theorem dX11_image_51 : decode cX11_image 51 = .ok (.invokestatic 291, 3) := by decide +kernel
theorem dX11_image_54 : decode cX11_image 54 = .ok (.ireturn, 1) := by decide +kernel
theorem ok_yX11_image : yOk yX11_image 0 := ⟨by decide +kernel, by decide +kernel, by decide +kernel⟩
def fX11_image (st : St) : Option (Int32 × St) := (fX2_copyOf_1 st).bind (fun r1 => bnd (sI r1 0 10 (gI r1 1 1)) (fun st3 => gd (cpB (0 : Int32) (0 : Int32) (gI st3 0 10) 13 8) (bnd (sIs st3 43 (va_cpy (gI st3 7) (gI st3 43) (0 : Int32).toNatClampNeg (0 : Int32).toNatClampNeg (gI st3 0 10).toNatClampNeg)) (fun st6 => some ((fJ6_bitCount_0f7a4 (gI st6 39 1)), st6)))))
set_option maxHeartbeats 4000000 in
theorem zX11_image (l : Launch) (X : WX) (st : St)  (R : Int32 × St) (hf : fX11_image st = some R) : CtI l yX11_image cX11_image 1 .int ({ frames := 2, cells := 0, slots := 0, locals := 85 }) EC 65 X [.ref (xq X 0)] st R.1 R.2 := by
  refine ct_in (own := RX11) (by decide +kernel) rfl (Nat.le_of_ble_eq_true rfl) (fun p e s m below meth c C hr hw ls hl => ?_)
  obtain ⟨hx, hb, hml, hown, hts⟩ := id C.1
  have hl : lv_has ls 1 [(0, .ref (xq X 0))] := hl
  unfold fX11_image at hf
  refine lv_aload_n hx hb dX11_image_0 rfl (lv_at hl 0 rfl) ?_
  refine w_get (T := TX11) C hw (by decide) 8 kf_X11_71 (EC_0 X _ _) rfl inA11 (by decide) rfl dX11_image_1 ?_
  refine lv_aload_n hx hb dX11_image_4 rfl (lv_at hl 0 rfl) ?_
  refine w_get (T := TX11) C hw (by decide) 7 kf_X11_67 (EC_0 X _ _) rfl inA11 (by decide) rfl dX11_image_5 ?_
  obtain ⟨r1, k2, hf⟩ := bd_some hf
  refine w_goV hw (w_runV (rest := []) C hw (zX2_copyOf_1 _ _ st r1 k2) (by decide) (EC_41 X _ _) rfl km_X11_353 ki_yX2_copyOf kv_X2_copyOf kz_X2 kc_X2_copyOf rfl ok_yX2_copyOf ⟨Nat.le_of_ble_eq_true rfl, Nat.le_of_ble_eq_true rfl⟩ rfl rfl rfl rfl hl.1 (Nat.le_of_ble_eq_true rfl) dX11_image_8 ⟨Nat.zero_le _, Nat.zero_le _⟩) (fun H locs hw => ?_)
  refine lv_aload_n hx hb dX11_image_11 rfl (lv_at hl 0 rfl) ?_
  refine lv_aload_n hx hb dX11_image_12 rfl (lv_at hl 0 rfl) ?_
  refine w_get (T := TX11) C hw (by decide) 0 kf_X11_10 (EC_0 X _ _) rfl inA11 (by decide) rfl dX11_image_13 ?_
  refine w_get (T := TX3) C hw (by decide) 1 kf_X11_110 (EC_1 X _ _) rfl inA3 (by decide) rfl dX11_image_16 ?_
  obtain ⟨st3, es4⟩ : ∃ z : St, z = sI r1 0 10 (gI r1 1 1) := ⟨_, rfl⟩
  replace hf := bnd_nm hf es4
  refine w_puti (T := TX11) C hw (by decide) 10 kf_X11_78 (EC_0 X _ _) rfl inA11 tyX11_ok nmX11 (by decide) rfl rfl (Nat.le_of_ble_eq_true rfl) rfl dX11_image_19 (fun H locs hw => ?_)
  rw [← es4] at hw
  refine lv_aload_n hx hb dX11_image_22 rfl (lv_at hl 0 rfl) ?_
  refine w_get (T := TX11) C hw (by decide) 0 kf_X11_10 (EC_0 X _ _) rfl inA11 (by decide) rfl dX11_image_23 ?_
  refine w_get (T := TX3) C hw (by decide) 0 kf_X11_171 (EC_1 X _ _) rfl inA3 (by decide) rfl dX11_image_26 ?_
  refine lv_iconst (v := 4) hx hb dX11_image_29 (by decide) ?_
  refine w_aald (k' := 7) C hw (by decide) (EC_2 X _ _) rfl rfl (by decide) rfl dX11_image_30 ?_
  refine lv_iconst (v := 0) hx hb dX11_image_31 (by decide) ?_
  refine lv_aload_n hx hb dX11_image_32 rfl (lv_at hl 0 rfl) ?_
  refine w_get (T := TX11) C hw (by decide) 9 kf_X11_74 (EC_0 X _ _) rfl inA11 (by decide) rfl dX11_image_33 ?_
  refine lv_iconst (v := 0) hx hb dX11_image_36 (by decide) ?_
  refine lv_aload_n hx hb dX11_image_37 rfl (lv_at hl 0 rfl) ?_
  refine w_get (T := TX11) C hw (by decide) 10 kf_X11_78 (EC_0 X _ _) rfl inA11 (by decide) rfl dX11_image_38 ?_
  obtain ⟨h5, hf⟩ := gd_some hf
  obtain ⟨st6, es7⟩ : ∃ z : St, z = sIs st3 43 (va_cpy (gI st3 7) (gI st3 43) (0 : Int32).toNatClampNeg (0 : Int32).toNatClampNeg (gI st3 0 10).toNatClampNeg) := ⟨_, rfl⟩
  replace hf := bnd_nm hf es7
  refine w_cpyi C hw hl.1 km_X11_357 (by decide) (by decide) (EC_7 X _ _) (fun f9 => EC_43 X f9 _) h5 (Nat.le_of_ble_eq_true rfl) (Nat.le_of_ble_eq_true rfl) dX11_image_41 (fun H locs hw => ?_)
  rw [← es7] at hw
  refine lv_aload_n hx hb dX11_image_44 rfl (lv_at hl 0 rfl) ?_
  refine w_get (T := TX11) C hw (by decide) 7 kf_X11_67 (EC_0 X _ _) rfl inA11 (by decide) rfl dX11_image_45 ?_
  refine w_get (T := TX2) C hw (by decide) 1 kf_X11_182 (EC_39 X _ _) rfl inA2 (by decide) rfl dX11_image_48 ?_
  refine w_goI hw (w_runS (rest := []) C hw (zJ6_bitCount_0f7a4 _ _ st6 (gI st6 39 1)) km_X11_291 kt_yJ6_bitCount_0f7a4 kz_J6 kc_J6_bitCount_0f7a4 ok_yJ6_bitCount_0f7a4 ⟨Nat.le_of_ble_eq_true rfl, Nat.le_of_ble_eq_true rfl⟩ rfl rfl rfl rfl hl.1 (Nat.le_of_ble_eq_true rfl) dX11_image_51 ⟨Nat.zero_le _, Nat.zero_le _⟩) (fun H locs hw => ?_)
  exact w_iret C hw hr (so2 hf).1 (so2 hf).2 dX11_image_54
theorem dX11_back_0 : decode cX11_back 0 = .ok (.aload_n 0, 1) := by decide +kernel
theorem dX11_back_1 : decode cX11_back 1 = .ok (.getfield 78, 3) := by decide +kernel
theorem dX11_back_4 : decode cX11_back 4 = .ok (.ifCond .ge 6, 3) := by decide +kernel
theorem dX11_back_7 : decode cX11_back 7 = .ok (.bipush (-5), 2) := by decide +kernel
theorem dX11_back_9 : decode cX11_back 9 = .ok (.ireturn, 1) := by decide +kernel
theorem dX11_back_10 : decode cX11_back 10 = .ok (.aload_n 0, 1) := by decide +kernel
theorem dX11_back_11 : decode cX11_back 11 = .ok (.getfield 67, 3) := by decide +kernel
theorem dX11_back_14 : decode cX11_back 14 = .ok (.aload_n 0, 1) := by decide +kernel
theorem dX11_back_15 : decode cX11_back 15 = .ok (.getfield 71, 3) := by decide +kernel
theorem dX11_back_18 : decode cX11_back 18 = .ok (.invokevirtual 353, 3) := by decide +kernel
theorem dX11_back_21 : decode cX11_back 21 = .ok (.aload_n 0, 1) := by decide +kernel
theorem dX11_back_22 : decode cX11_back 22 = .ok (.getfield 74, 3) := by decide +kernel
theorem dX11_back_25 : decode cX11_back 25 = .ok (.iconst 0, 1) := by decide +kernel
theorem dX11_back_26 : decode cX11_back 26 = .ok (.aload_n 0, 1) := by decide +kernel
theorem dX11_back_27 : decode cX11_back 27 = .ok (.getfield 10, 3) := by decide +kernel
theorem dX11_back_30 : decode cX11_back 30 = .ok (.getfield 171, 3) := by decide +kernel
theorem dX11_back_33 : decode cX11_back 33 = .ok (.iconst 4, 1) := by decide +kernel
theorem dX11_back_34 : decode cX11_back 34 = .ok (.aaload, 1) := by decide +kernel
theorem dX11_back_35 : decode cX11_back 35 = .ok (.iconst 0, 1) := by decide +kernel
theorem dX11_back_36 : decode cX11_back 36 = .ok (.aload_n 0, 1) := by decide +kernel
theorem dX11_back_37 : decode cX11_back 37 = .ok (.getfield 78, 3) := by decide +kernel
theorem dX11_back_40 : decode cX11_back 40 = .ok (.invokestatic 357, 3) := by decide +kernel
theorem dX11_back_43 : decode cX11_back 43 = .ok (.aload_n 0, 1) := by decide +kernel
theorem dX11_back_44 : decode cX11_back 44 = .ok (.getfield 67, 3) := by decide +kernel
theorem dX11_back_47 : decode cX11_back 47 = .ok (.getfield 182, 3) := by decide +kernel
theorem dX11_back_50 : decode cX11_back 50 = .ok (.invokestatic 291, 3) := by decide +kernel
theorem dX11_back_53 : decode cX11_back 53 = .ok (.ireturn, 1) := by decide +kernel
theorem ok_yX11_back : yOk yX11_back 0 := ⟨by decide +kernel, by decide +kernel, by decide +kernel⟩
def fX11_back (st : St) : Option (Int32 × St) := if 0 ≤ gI st 0 10 then ((fX2_copyOf_2 st).bind (fun r2 => gd (cpB (0 : Int32) (0 : Int32) (gI r2 0 10) 8 13) (bnd (sIs r2 7 (va_cpy (gI r2 43) (gI r2 7) (0 : Int32).toNatClampNeg (0 : Int32).toNatClampNeg (gI r2 0 10).toNatClampNeg)) (fun st5 => some ((fJ6_bitCount_0f7a4 (gI st5 39 1)), st5))))) else (some ((-5 : Int32), st))
set_option maxHeartbeats 4000000 in
theorem zX11_back (l : Launch) (X : WX) (st : St)  (R : Int32 × St) (hf : fX11_back st = some R) : CtI l yX11_back cX11_back 1 .int ({ frames := 2, cells := 0, slots := 0, locals := 85 }) EC 65 X [.ref (xq X 0)] st R.1 R.2 := by
  refine ct_in (own := RX11) (by decide +kernel) rfl (Nat.le_of_ble_eq_true rfl) (fun p e s m below meth c C hr hw ls hl => ?_)
  obtain ⟨hx, hb, hml, hown, hts⟩ := id C.1
  have hl : lv_has ls 1 [(0, .ref (xq X 0))] := hl
  unfold fX11_back at hf
  refine lv_aload_n hx hb dX11_back_0 rfl (lv_at hl 0 rfl) ?_
  refine w_get (T := TX11) C hw (by decide) 10 kf_X11_78 (EC_0 X _ _) rfl inA11 (by decide) rfl dX11_back_1 ?_
  refine lv_if_ge (tgt := 10) hx hb dX11_back_4 (by decide) (fun c1 => ?_) (fun c1 => ?_)
  · replace hf := ite_t hf c1
    refine lv_aload_n hx hb dX11_back_10 rfl (lv_at hl 0 rfl) ?_
    refine w_get (T := TX11) C hw (by decide) 7 kf_X11_67 (EC_0 X _ _) rfl inA11 (by decide) rfl dX11_back_11 ?_
    refine lv_aload_n hx hb dX11_back_14 rfl (lv_at hl 0 rfl) ?_
    refine w_get (T := TX11) C hw (by decide) 8 kf_X11_71 (EC_0 X _ _) rfl inA11 (by decide) rfl dX11_back_15 ?_
    obtain ⟨r2, k3, hf⟩ := bd_some hf
    refine w_goV hw (w_runV (rest := []) C hw (zX2_copyOf_2 _ _ st r2 k3) (by decide) (EC_39 X _ _) rfl km_X11_353 ki_yX2_copyOf kv_X2_copyOf kz_X2 kc_X2_copyOf rfl ok_yX2_copyOf ⟨Nat.le_of_ble_eq_true rfl, Nat.le_of_ble_eq_true rfl⟩ rfl rfl rfl rfl hl.1 (Nat.le_of_ble_eq_true rfl) dX11_back_18 ⟨Nat.zero_le _, Nat.zero_le _⟩) (fun H locs hw => ?_)
    refine lv_aload_n hx hb dX11_back_21 rfl (lv_at hl 0 rfl) ?_
    refine w_get (T := TX11) C hw (by decide) 9 kf_X11_74 (EC_0 X _ _) rfl inA11 (by decide) rfl dX11_back_22 ?_
    refine lv_iconst (v := 0) hx hb dX11_back_25 (by decide) ?_
    refine lv_aload_n hx hb dX11_back_26 rfl (lv_at hl 0 rfl) ?_
    refine w_get (T := TX11) C hw (by decide) 0 kf_X11_10 (EC_0 X _ _) rfl inA11 (by decide) rfl dX11_back_27 ?_
    refine w_get (T := TX3) C hw (by decide) 0 kf_X11_171 (EC_1 X _ _) rfl inA3 (by decide) rfl dX11_back_30 ?_
    refine lv_iconst (v := 4) hx hb dX11_back_33 (by decide) ?_
    refine w_aald (k' := 7) C hw (by decide) (EC_2 X _ _) rfl rfl (by decide) rfl dX11_back_34 ?_
    refine lv_iconst (v := 0) hx hb dX11_back_35 (by decide) ?_
    refine lv_aload_n hx hb dX11_back_36 rfl (lv_at hl 0 rfl) ?_
    refine w_get (T := TX11) C hw (by decide) 10 kf_X11_78 (EC_0 X _ _) rfl inA11 (by decide) rfl dX11_back_37 ?_
    obtain ⟨h4, hf⟩ := gd_some hf
    obtain ⟨st5, es6⟩ : ∃ z : St, z = sIs r2 7 (va_cpy (gI r2 43) (gI r2 7) (0 : Int32).toNatClampNeg (0 : Int32).toNatClampNeg (gI r2 0 10).toNatClampNeg) := ⟨_, rfl⟩
    replace hf := bnd_nm hf es6
    refine w_cpyi C hw hl.1 km_X11_357 (by decide) (by decide) (EC_43 X _ _) (fun f9 => EC_7 X f9 _) h4 (Nat.le_of_ble_eq_true rfl) (Nat.le_of_ble_eq_true rfl) dX11_back_40 (fun H locs hw => ?_)
    rw [← es6] at hw
    refine lv_aload_n hx hb dX11_back_43 rfl (lv_at hl 0 rfl) ?_
    refine w_get (T := TX11) C hw (by decide) 7 kf_X11_67 (EC_0 X _ _) rfl inA11 (by decide) rfl dX11_back_44 ?_
    refine w_get (T := TX2) C hw (by decide) 1 kf_X11_182 (EC_39 X _ _) rfl inA2 (by decide) rfl dX11_back_47 ?_
    refine w_goI hw (w_runS (rest := []) C hw (zJ6_bitCount_0f7a4 _ _ st5 (gI st5 39 1)) km_X11_291 kt_yJ6_bitCount_0f7a4 kz_J6 kc_J6_bitCount_0f7a4 ok_yJ6_bitCount_0f7a4 ⟨Nat.le_of_ble_eq_true rfl, Nat.le_of_ble_eq_true rfl⟩ rfl rfl rfl rfl hl.1 (Nat.le_of_ble_eq_true rfl) dX11_back_50 ⟨Nat.zero_le _, Nat.zero_le _⟩) (fun H locs hw => ?_)
    exact w_iret C hw hr (so2 hf).1 (so2 hf).2 dX11_back_53
  · replace hf := ite_f hf c1
    refine lv_bipush (v := -5) hx hb dX11_back_7 (by decide) ?_
    exact w_iret C hw hr (so2 hf).1 (so2 hf).2 dX11_back_9
theorem dX11_undo_0 : decode cX11_undo 0 = .ok (.aload_n 0, 1) := by decide +kernel
theorem dX11_undo_1 : decode cX11_undo 1 = .ok (.getfield 85, 3) := by decide +kernel
theorem dX11_undo_4 : decode cX11_undo 4 = .ok (.getfield 363, 3) := by decide +kernel
theorem dX11_undo_7 : decode cX11_undo 7 = .ok (.ifCond .ne 8, 3) := by decide +kernel
theorem dX11_undo_10 : decode cX11_undo 10 = .ok (.bipush (-5), 2) := by decide +kernel
theorem dX11_undo_12 : decode cX11_undo 12 = .ok (.goto 14, 3) := by decide +kernel
theorem dX11_undo_15 : decode cX11_undo 15 = .ok (.aload_n 0, 1) := by decide +kernel
theorem dX11_undo_16 : decode cX11_undo 16 = .ok (.getfield 85, 3) := by decide +kernel
theorem dX11_undo_19 : decode cX11_undo 19 = .ok (.aload_n 0, 1) := by decide +kernel
theorem dX11_undo_20 : decode cX11_undo 20 = .ok (.getfield 10, 3) := by decide +kernel
theorem dX11_undo_23 : decode cX11_undo 23 = .ok (.invokevirtual 366, 3) := by decide +kernel
theorem dX11_undo_26 : decode cX11_undo 26 = .ok (.ireturn, 1) := by decide +kernel
theorem ok_yX11_undo : yOk yX11_undo 0 := ⟨by decide +kernel, by decide +kernel, by decide +kernel⟩
def fX11_undo (st : St) : Option (Int32 × St) := if gI st 44 0 = 0 then (some ((-5 : Int32), st)) else ((fX1_takeBack st).bind (fun r2 => some (r2.1, r2.2)))
set_option maxHeartbeats 4000000 in
theorem zX11_undo (l : Launch) (X : WX) (st : St)  (R : Int32 × St) (hf : fX11_undo st = some R) : CtI l yX11_undo cX11_undo 1 .int ({ frames := 1, cells := 0, slots := 0, locals := 21 }) EC 65 X [.ref (xq X 0)] st R.1 R.2 := by
  refine ct_in (own := RX11) (by decide +kernel) rfl (Nat.le_of_ble_eq_true rfl) (fun p e s m below meth c C hr hw ls hl => ?_)
  obtain ⟨hx, hb, hml, hown, hts⟩ := id C.1
  have hl : lv_has ls 1 [(0, .ref (xq X 0))] := hl
  unfold fX11_undo at hf
  refine lv_aload_n hx hb dX11_undo_0 rfl (lv_at hl 0 rfl) ?_
  refine w_get (T := TX11) C hw (by decide) 11 kf_X11_85 (EC_0 X _ _) rfl inA11 (by decide) rfl dX11_undo_1 ?_
  refine w_get (T := TX1) C hw (by decide) 0 kf_X11_363 (EC_44 X _ _) rfl inA1 (by decide) rfl dX11_undo_4 ?_
  refine lv_if_ne (tgt := 15) hx hb dX11_undo_7 (by decide) (fun c1 => ?_) (fun c1 => ?_)
  · replace hf := ite_f hf c1
    refine lv_aload_n hx hb dX11_undo_15 rfl (lv_at hl 0 rfl) ?_
    refine w_get (T := TX11) C hw (by decide) 11 kf_X11_85 (EC_0 X _ _) rfl inA11 (by decide) rfl dX11_undo_16 ?_
    refine lv_aload_n hx hb dX11_undo_19 rfl (lv_at hl 0 rfl) ?_
    refine w_get (T := TX11) C hw (by decide) 0 kf_X11_10 (EC_0 X _ _) rfl inA11 (by decide) rfl dX11_undo_20 ?_
    obtain ⟨r2, k3, hf⟩ := bd_some hf
    refine w_goI hw (w_runV (rest := []) C hw (zX1_takeBack _ _ st r2 k3) (by decide) (EC_44 X _ _) rfl km_X11_366 ki_yX1_takeBack kv_X1_takeBack kz_X1 kc_X1_takeBack rfl ok_yX1_takeBack ⟨Nat.le_of_ble_eq_true rfl, Nat.le_of_ble_eq_true rfl⟩ rfl rfl rfl rfl hl.1 (Nat.le_of_ble_eq_true rfl) dX11_undo_23 ⟨Nat.zero_le _, Nat.zero_le _⟩) (fun H locs hw => ?_)
    exact w_iret C hw hr (so2 hf).1 (so2 hf).2 dX11_undo_26
  · replace hf := ite_t hf c1
    refine lv_bipush (v := -5) hx hb dX11_undo_10 (by decide) ?_
    refine lv_goto (tgt := 26) hx hb dX11_undo_12 (by decide) ?_
    exact w_iret C hw hr (so2 hf).1 (so2 hf).2 dX11_undo_26
theorem dX11_redo_0 : decode cX11_redo 0 = .ok (.aload_n 0, 1) := by decide +kernel
theorem dX11_redo_1 : decode cX11_redo 1 = .ok (.getfield 85, 3) := by decide +kernel
theorem dX11_redo_4 : decode cX11_redo 4 = .ok (.getfield 370, 3) := by decide +kernel
theorem dX11_redo_7 : decode cX11_redo 7 = .ok (.ifCond .ne 8, 3) := by decide +kernel
theorem dX11_redo_10 : decode cX11_redo 10 = .ok (.bipush (-5), 2) := by decide +kernel
theorem dX11_redo_12 : decode cX11_redo 12 = .ok (.goto 14, 3) := by decide +kernel
theorem dX11_redo_15 : decode cX11_redo 15 = .ok (.aload_n 0, 1) := by decide +kernel
theorem dX11_redo_16 : decode cX11_redo 16 = .ok (.getfield 85, 3) := by decide +kernel
theorem dX11_redo_19 : decode cX11_redo 19 = .ok (.aload_n 0, 1) := by decide +kernel
theorem dX11_redo_20 : decode cX11_redo 20 = .ok (.getfield 10, 3) := by decide +kernel
theorem dX11_redo_23 : decode cX11_redo 23 = .ok (.invokevirtual 373, 3) := by decide +kernel
theorem dX11_redo_26 : decode cX11_redo 26 = .ok (.ireturn, 1) := by decide +kernel
theorem ok_yX11_redo : yOk yX11_redo 0 := ⟨by decide +kernel, by decide +kernel, by decide +kernel⟩
def fX11_redo (st : St) : Option (Int32 × St) := if gI st 44 1 = 0 then (some ((-5 : Int32), st)) else ((fX1_doAgain st).bind (fun r2 => some (r2.1, r2.2)))
set_option maxHeartbeats 4000000 in
theorem zX11_redo (l : Launch) (X : WX) (st : St)  (R : Int32 × St) (hf : fX11_redo st = some R) : CtI l yX11_redo cX11_redo 1 .int ({ frames := 1, cells := 0, slots := 0, locals := 21 }) EC 65 X [.ref (xq X 0)] st R.1 R.2 := by
  refine ct_in (own := RX11) (by decide +kernel) rfl (Nat.le_of_ble_eq_true rfl) (fun p e s m below meth c C hr hw ls hl => ?_)
  obtain ⟨hx, hb, hml, hown, hts⟩ := id C.1
  have hl : lv_has ls 1 [(0, .ref (xq X 0))] := hl
  unfold fX11_redo at hf
  refine lv_aload_n hx hb dX11_redo_0 rfl (lv_at hl 0 rfl) ?_
  refine w_get (T := TX11) C hw (by decide) 11 kf_X11_85 (EC_0 X _ _) rfl inA11 (by decide) rfl dX11_redo_1 ?_
  refine w_get (T := TX1) C hw (by decide) 1 kf_X11_370 (EC_44 X _ _) rfl inA1 (by decide) rfl dX11_redo_4 ?_
  refine lv_if_ne (tgt := 15) hx hb dX11_redo_7 (by decide) (fun c1 => ?_) (fun c1 => ?_)
  · replace hf := ite_f hf c1
    refine lv_aload_n hx hb dX11_redo_15 rfl (lv_at hl 0 rfl) ?_
    refine w_get (T := TX11) C hw (by decide) 11 kf_X11_85 (EC_0 X _ _) rfl inA11 (by decide) rfl dX11_redo_16 ?_
    refine lv_aload_n hx hb dX11_redo_19 rfl (lv_at hl 0 rfl) ?_
    refine w_get (T := TX11) C hw (by decide) 0 kf_X11_10 (EC_0 X _ _) rfl inA11 (by decide) rfl dX11_redo_20 ?_
    obtain ⟨r2, k3, hf⟩ := bd_some hf
    refine w_goI hw (w_runV (rest := []) C hw (zX1_doAgain _ _ st r2 k3) (by decide) (EC_44 X _ _) rfl km_X11_373 ki_yX1_doAgain kv_X1_doAgain kz_X1 kc_X1_doAgain rfl ok_yX1_doAgain ⟨Nat.le_of_ble_eq_true rfl, Nat.le_of_ble_eq_true rfl⟩ rfl rfl rfl rfl hl.1 (Nat.le_of_ble_eq_true rfl) dX11_redo_23 ⟨Nat.zero_le _, Nat.zero_le _⟩) (fun H locs hw => ?_)
    exact w_iret C hw hr (so2 hf).1 (so2 hf).2 dX11_redo_26
  · replace hf := ite_t hf c1
    refine lv_bipush (v := -5) hx hb dX11_redo_10 (by decide) ?_
    refine lv_goto (tgt := 26) hx hb dX11_redo_12 (by decide) ?_
    exact w_iret C hw hr (so2 hf).1 (so2 hf).2 dX11_redo_26
theorem dX11_body_0 : decode cX11_body 0 = .ok (.iload_n 1, 1) := by decide +kernel
theorem dX11_body_1 : decode cX11_body 1 = .ok (.invokestatic 376, 3) := by decide +kernel
theorem dX11_body_4 : decode cX11_body 4 = .ok (.ifCond .ne 5, 3) := by decide +kernel
theorem dX11_body_7 : decode cX11_body 7 = .ok (.iconst (-1), 1) := by decide +kernel
theorem dX11_body_8 : decode cX11_body 8 = .ok (.ireturn, 1) := by decide +kernel
theorem dX11_body_9 : decode cX11_body 9 = .ok (.aload_n 0, 1) := by decide +kernel
theorem dX11_body_10 : decode cX11_body 10 = .ok (.getfield 92, 3) := by decide +kernel
theorem dX11_body_13 : decode cX11_body 13 = .ok (.getfield 379, 3) := by decide +kernel
theorem dX11_body_16 : decode cX11_body 16 = .ok (.bipush 50, 2) := by decide +kernel
theorem dX11_body_18 : decode cX11_body 18 = .ok (.if_icmp .ne 8, 3) := by decide +kernel
theorem dX11_body_21 : decode cX11_body 21 = .ok (.bipush (-3), 2) := by decide +kernel
theorem dX11_body_23 : decode cX11_body 23 = .ok (.goto 11, 3) := by decide +kernel
theorem dX11_body_26 : decode cX11_body 26 = .ok (.aload_n 0, 1) := by decide +kernel
theorem dX11_body_27 : decode cX11_body 27 = .ok (.getfield 92, 3) := by decide +kernel
theorem dX11_body_30 : decode cX11_body 30 = .ok (.iload_n 1, 1) := by decide +kernel
theorem dX11_body_31 : decode cX11_body 31 = .ok (.invokevirtual 380, 3) := by decide +kernel
theorem dX11_body_34 : decode cX11_body 34 = .ok (.ireturn, 1) := by decide +kernel
theorem ok_yX11_body : yOk yX11_body 1 := ⟨by decide +kernel, by decide +kernel, by decide +kernel⟩
def fX11_body (st : St) (a1 : Int32) : Option (Int32 × St) := if bI (fX11_isKind a1) = 0 then (some ((-1 : Int32), st)) else (if gI st 49 1 = (50 : Int32) then (some ((-3 : Int32), st)) else ((fX0_add st a1).bind (fun r3 => some (r3.1, r3.2))))
set_option maxHeartbeats 4000000 in
theorem zX11_body (l : Launch) (X : WX) (st : St) (a1 : Int32) (R : Int32 × St) (hf : fX11_body st a1 = some R) : CtI l yX11_body cX11_body 2 .int ({ frames := 2, cells := 0, slots := 0, locals := 42 }) EC 65 X [.ref (xq X 0), .int a1] st R.1 R.2 := by
  refine ct_in (own := RX11) (by decide +kernel) rfl (Nat.le_of_ble_eq_true rfl) (fun p e s m below meth c C hr hw ls hl => ?_)
  obtain ⟨hx, hb, hml, hown, hts⟩ := id C.1
  have hl : lv_has ls 2 [(0, .ref (xq X 0)), (1, .int a1)] := hl
  unfold fX11_body at hf
  refine lv_iload_n hx hb dX11_body_0 rfl (lv_at hl 1 rfl) ?_
  refine w_goI hw (w_runS (rest := []) C hw (zX11_isKind _ _ st a1) km_X11_376 kt_yX11_isKind kz_X11 kc_X11_isKind ok_yX11_isKind ⟨Nat.le_of_ble_eq_true rfl, Nat.le_of_ble_eq_true rfl⟩ rfl rfl rfl rfl hl.1 (Nat.le_of_ble_eq_true rfl) dX11_body_1 ⟨Nat.zero_le _, Nat.zero_le _⟩) (fun H locs hw => ?_)
  refine lv_if_ne (tgt := 9) hx hb dX11_body_4 (by decide) (fun c1 => ?_) (fun c1 => ?_)
  · replace hf := ite_f hf c1
    refine lv_aload_n hx hb dX11_body_9 rfl (lv_at hl 0 rfl) ?_
    refine w_get (T := TX11) C hw (by decide) 12 kf_X11_92 (EC_0 X _ _) rfl inA11 (by decide) rfl dX11_body_10 ?_
    refine w_get (T := TX0) C hw (by decide) 1 kf_X11_379 (EC_49 X _ _) rfl inA0 (by decide) rfl dX11_body_13 ?_
    refine lv_bipush (v := 50) hx hb dX11_body_16 (by decide) ?_
    refine lv_icmp_ne (tgt := 26) hx hb dX11_body_18 (by decide) (fun c2 => ?_) (fun c2 => ?_)
    · replace hf := ite_f hf c2
      refine lv_aload_n hx hb dX11_body_26 rfl (lv_at hl 0 rfl) ?_
      refine w_get (T := TX11) C hw (by decide) 12 kf_X11_92 (EC_0 X _ _) rfl inA11 (by decide) rfl dX11_body_27 ?_
      refine lv_iload_n hx hb dX11_body_30 rfl (lv_at hl 1 rfl) ?_
      obtain ⟨r3, k4, hf⟩ := bd_some hf
      refine w_goI hw (w_runV (rest := []) C hw (zX0_add _ _ st a1 r3 k4) (by decide) (EC_49 X _ _) rfl km_X11_380 ki_yX0_add kv_X0_add kz_X0 kc_X0_add rfl ok_yX0_add ⟨Nat.le_of_ble_eq_true rfl, Nat.le_of_ble_eq_true rfl⟩ rfl rfl rfl rfl hl.1 (Nat.le_of_ble_eq_true rfl) dX11_body_31 ⟨Nat.zero_le _, Nat.zero_le _⟩) (fun H locs hw => ?_)
      exact w_iret C hw hr (so2 hf).1 (so2 hf).2 dX11_body_34
    · replace hf := ite_t hf c2
      refine lv_bipush (v := -3) hx hb dX11_body_21 (by decide) ?_
      refine lv_goto (tgt := 34) hx hb dX11_body_23 (by decide) ?_
      exact w_iret C hw hr (so2 hf).1 (so2 hf).2 dX11_body_34
  · replace hf := ite_t hf c1
    refine lv_iconst (v := -1) hx hb dX11_body_7 (by decide) ?_
    exact w_iret C hw hr (so2 hf).1 (so2 hf).2 dX11_body_8
theorem dX11_isBody_0 : decode cX11_isBody 0 = .ok (.iload_n 1, 1) := by decide +kernel
theorem dX11_isBody_1 : decode cX11_isBody 1 = .ok (.iconst 0, 1) := by decide +kernel
theorem dX11_isBody_2 : decode cX11_isBody 2 = .ok (.aload_n 0, 1) := by decide +kernel
theorem dX11_isBody_3 : decode cX11_isBody 3 = .ok (.getfield 92, 3) := by decide +kernel
theorem dX11_isBody_6 : decode cX11_isBody 6 = .ok (.getfield 379, 3) := by decide +kernel
theorem dX11_isBody_9 : decode cX11_isBody 9 = .ok (.iconst 1, 1) := by decide +kernel
theorem dX11_isBody_10 : decode cX11_isBody 10 = .ok (.isub, 1) := by decide +kernel
theorem dX11_isBody_11 : decode cX11_isBody 11 = .ok (.invokestatic 117, 3) := by decide +kernel
theorem dX11_isBody_14 : decode cX11_isBody 14 = .ok (.ireturn, 1) := by decide +kernel
theorem ok_yX11_isBody : yOk yX11_isBody 1 := ⟨by decide +kernel, by decide +kernel, by decide +kernel⟩
def fX11_isBody (st : St) (a1 : Int32) : Bool := (fX11_isWithin a1 (0 : Int32) ((gI st 49 1) - (1 : Int32)))
set_option maxHeartbeats 4000000 in
theorem zX11_isBody (l : Launch) (X : WX) (st : St) (a1 : Int32) : CtI l yX11_isBody cX11_isBody 2 .boolean ({ frames := 1, cells := 0, slots := 0, locals := 22 }) EC 65 X [.ref (xq X 0), .int a1] st (bI (fX11_isBody st a1)) st := by
  generalize hf : fX11_isBody st a1 = R
  refine ct_in (own := RX11) (by decide +kernel) rfl (Nat.le_of_ble_eq_true rfl) (fun p e s m below meth c C hr hw ls hl => ?_)
  obtain ⟨hx, hb, hml, hown, hts⟩ := id C.1
  have hl : lv_has ls 2 [(0, .ref (xq X 0)), (1, .int a1)] := hl
  unfold fX11_isBody at hf
  refine lv_iload_n hx hb dX11_isBody_0 rfl (lv_at hl 1 rfl) ?_
  refine lv_iconst (v := 0) hx hb dX11_isBody_1 (by decide) ?_
  refine lv_aload_n hx hb dX11_isBody_2 rfl (lv_at hl 0 rfl) ?_
  refine w_get (T := TX11) C hw (by decide) 12 kf_X11_92 (EC_0 X _ _) rfl inA11 (by decide) rfl dX11_isBody_3 ?_
  refine w_get (T := TX0) C hw (by decide) 1 kf_X11_379 (EC_49 X _ _) rfl inA0 (by decide) rfl dX11_isBody_6 ?_
  refine lv_iconst (v := 1) hx hb dX11_isBody_9 (by decide) ?_
  refine lv_isub hx hb dX11_isBody_10 ?_
  refine w_goI hw (w_runS (rest := []) C hw (zX11_isWithin _ _ st a1 (0 : Int32) ((gI st 49 1) - (1 : Int32))) km_X11_117 kt_yX11_isWithin kz_X11 kc_X11_isWithin ok_yX11_isWithin ⟨Nat.le_of_ble_eq_true rfl, Nat.le_of_ble_eq_true rfl⟩ rfl rfl rfl rfl hl.1 (Nat.le_of_ble_eq_true rfl) dX11_isBody_11 ⟨Nat.zero_le _, Nat.zero_le _⟩) (fun H locs hw => ?_)
  exact w_zret (b := (fX11_isWithin a1 (0 : Int32) ((gI st 49 1) - (1 : Int32)))) C hw hr rfl hf rfl dX11_isBody_14
theorem dX11_act_0 : decode cX11_act 0 = .ok (.aload_n 0, 1) := by decide +kernel
theorem dX11_act_1 : decode cX11_act 1 = .ok (.getfield 92, 3) := by decide +kernel
theorem dX11_act_4 : decode cX11_act 4 = .ok (.iconst 0, 1) := by decide +kernel
theorem dX11_act_5 : decode cX11_act 5 = .ok (.putfield 382, 3) := by decide +kernel
theorem dX11_act_8 : decode cX11_act 8 = .ok (.aload_n 0, 1) := by decide +kernel
theorem dX11_act_9 : decode cX11_act 9 = .ok (.iload_n 1, 1) := by decide +kernel
theorem dX11_act_10 : decode cX11_act 10 = .ok (.invokevirtual 385, 3) := by decide +kernel
theorem dX11_act_13 : decode cX11_act 13 = .ok (.ifCond .eq 26, 3) := by decide +kernel
theorem dX11_act_16 : decode cX11_act 16 = .ok (.iload_n 2, 1) := by decide +kernel
theorem dX11_act_17 : decode cX11_act 17 = .ok (.iconst 0, 1) := by decide +kernel
theorem dX11_act_18 : decode cX11_act 18 = .ok (.iconst 3, 1) := by decide +kernel
theorem dX11_act_19 : decode cX11_act 19 = .ok (.invokestatic 117, 3) := by decide +kernel
theorem dX11_act_22 : decode cX11_act 22 = .ok (.ifCond .eq 17, 3) := by decide +kernel
theorem dX11_act_25 : decode cX11_act 25 = .ok (.aload_n 0, 1) := by decide +kernel
theorem dX11_act_26 : decode cX11_act 26 = .ok (.getfield 92, 3) := by decide +kernel
theorem dX11_act_29 : decode cX11_act 29 = .ok (.iload_n 1, 1) := by decide +kernel
theorem dX11_act_30 : decode cX11_act 30 = .ok (.iload_n 2, 1) := by decide +kernel
theorem dX11_act_31 : decode cX11_act 31 = .ok (.iload_n 3, 1) := by decide +kernel
theorem dX11_act_32 : decode cX11_act 32 = .ok (.iconst 0, 1) := by decide +kernel
theorem dX11_act_33 : decode cX11_act 33 = .ok (.invokevirtual 388, 3) := by decide +kernel
theorem dX11_act_36 : decode cX11_act 36 = .ok (.goto 4, 3) := by decide +kernel
theorem dX11_act_39 : decode cX11_act 39 = .ok (.iconst 0, 1) := by decide +kernel
theorem dX11_act_40 : decode cX11_act 40 = .ok (.ireturn, 1) := by decide +kernel
theorem ok_yX11_act : yOk yX11_act 3 := ⟨by decide +kernel, by decide +kernel, by decide +kernel⟩
def fX11_act (n : Nat) (st : St) (a1 : Int32) (a2 : Int32) (a3 : Int32) : Option (Int32 × St) := bnd (sI st 49 3 (0 : Int32)) (fun st1 => if bI (fX11_isBody st1 a1) = 0 then (some ((0 : Int32), st1)) else (if bI (fX11_isWithin a2 (0 : Int32) (3 : Int32)) = 0 then (some ((0 : Int32), st1)) else ((fX0_ofItsOwn n st1 a1 a2 a3 (0 : Int32)).bind (fun r5 => some (r5.1, r5.2)))))
set_option maxHeartbeats 4000000 in
theorem zX11_act (l : Launch) (X : WX) (n : Nat) (st : St) (a1 : Int32) (a2 : Int32) (a3 : Int32) (R : Int32 × St) (hf : fX11_act n st a1 a2 a3 = some R) : CtI l yX11_act cX11_act 4 .int ({ frames := 27, cells := 0, slots := 0, locals := 692 }) EC 65 X [.ref (xq X 0), .int a1, .int a2, .int a3] st R.1 R.2 := by
  refine ct_in (own := RX11) (by decide +kernel) rfl (Nat.le_of_ble_eq_true rfl) (fun p e s m below meth c C hr hw ls hl => ?_)
  obtain ⟨hx, hb, hml, hown, hts⟩ := id C.1
  have hl : lv_has ls 4 [(0, .ref (xq X 0)), (1, .int a1), (2, .int a2), (3, .int a3)] := hl
  unfold fX11_act at hf
  refine lv_aload_n hx hb dX11_act_0 rfl (lv_at hl 0 rfl) ?_
  refine w_get (T := TX11) C hw (by decide) 12 kf_X11_92 (EC_0 X _ _) rfl inA11 (by decide) rfl dX11_act_1 ?_
  refine lv_iconst (v := 0) hx hb dX11_act_4 (by decide) ?_
  obtain ⟨st1, es2⟩ : ∃ z : St, z = sI st 49 3 (0 : Int32) := ⟨_, rfl⟩
  replace hf := bnd_nm hf es2
  refine w_puti (T := TX0) C hw (by decide) 3 kf_X11_382 (EC_49 X _ _) rfl inA0 tyX0_ok nmX0 (by decide) rfl rfl (Nat.le_of_ble_eq_true rfl) rfl dX11_act_5 (fun H locs hw => ?_)
  rw [← es2] at hw
  refine lv_aload_n hx hb dX11_act_8 rfl (lv_at hl 0 rfl) ?_
  refine lv_iload_n hx hb dX11_act_9 rfl (lv_at hl 1 rfl) ?_
  refine w_goI hw (w_runV (rest := []) C hw (zX11_isBody _ _ st1 a1) (by decide) (EC_0 X _ _) rfl km_X11_385 ki_yX11_isBody kv_X11_isBody kz_X11 kc_X11_isBody rfl ok_yX11_isBody ⟨Nat.le_of_ble_eq_true rfl, Nat.le_of_ble_eq_true rfl⟩ rfl rfl rfl rfl hl.1 (Nat.le_of_ble_eq_true rfl) dX11_act_10 ⟨Nat.zero_le _, Nat.zero_le _⟩) (fun H locs hw => ?_)
  refine lv_if_eq (tgt := 39) hx hb dX11_act_13 (by decide) (fun c3 => ?_) (fun c3 => ?_)
  · replace hf := ite_t hf c3
    refine lv_iconst (v := 0) hx hb dX11_act_39 (by decide) ?_
    exact w_iret C hw hr (so2 hf).1 (so2 hf).2 dX11_act_40
  · replace hf := ite_f hf c3
    refine lv_iload_n hx hb dX11_act_16 rfl (lv_at hl 2 rfl) ?_
    refine lv_iconst (v := 0) hx hb dX11_act_17 (by decide) ?_
    refine lv_iconst (v := 3) hx hb dX11_act_18 (by decide) ?_
    refine w_goI hw (w_runS (rest := []) C hw (zX11_isWithin _ _ st1 a2 (0 : Int32) (3 : Int32)) km_X11_117 kt_yX11_isWithin kz_X11 kc_X11_isWithin ok_yX11_isWithin ⟨Nat.le_of_ble_eq_true rfl, Nat.le_of_ble_eq_true rfl⟩ rfl rfl rfl rfl hl.1 (Nat.le_of_ble_eq_true rfl) dX11_act_19 ⟨Nat.zero_le _, Nat.zero_le _⟩) (fun H locs hw => ?_)
    refine lv_if_eq (tgt := 39) hx hb dX11_act_22 (by decide) (fun c4 => ?_) (fun c4 => ?_)
    · replace hf := ite_t hf c4
      refine lv_iconst (v := 0) hx hb dX11_act_39 (by decide) ?_
      exact w_iret C hw hr (so2 hf).1 (so2 hf).2 dX11_act_40
    · replace hf := ite_f hf c4
      refine lv_aload_n hx hb dX11_act_25 rfl (lv_at hl 0 rfl) ?_
      refine w_get (T := TX11) C hw (by decide) 12 kf_X11_92 (EC_0 X _ _) rfl inA11 (by decide) rfl dX11_act_26 ?_
      refine lv_iload_n hx hb dX11_act_29 rfl (lv_at hl 1 rfl) ?_
      refine lv_iload_n hx hb dX11_act_30 rfl (lv_at hl 2 rfl) ?_
      refine lv_iload_n hx hb dX11_act_31 rfl (lv_at hl 3 rfl) ?_
      refine lv_iconst (v := 0) hx hb dX11_act_32 (by decide) ?_
      obtain ⟨r5, k6, hf⟩ := bd_some hf
      refine w_goI hw (w_runV (rest := []) C hw (zX0_ofItsOwn _ _ n st1 a1 a2 a3 (0 : Int32) r5 k6) (by decide) (EC_49 X _ _) rfl km_X11_388 ki_yX0_ofItsOwn kv_X0_ofItsOwn kz_X0 kc_X0_ofItsOwn rfl ok_yX0_ofItsOwn ⟨Nat.le_of_ble_eq_true rfl, Nat.le_of_ble_eq_true rfl⟩ rfl rfl rfl rfl hl.1 (Nat.le_of_ble_eq_true rfl) dX11_act_33 ⟨Nat.zero_le _, Nat.zero_le _⟩) (fun H locs hw => ?_)
      refine lv_goto (tgt := 40) hx hb dX11_act_36 (by decide) ?_
      exact w_iret C hw hr (so2 hf).1 (so2 hf).2 dX11_act_40
theorem dX11_trace_0 : decode cX11_trace 0 = .ok (.iload_n 1, 1) := by decide +kernel
theorem dX11_trace_1 : decode cX11_trace 1 = .ok (.iconst 0, 1) := by decide +kernel
theorem dX11_trace_2 : decode cX11_trace 2 = .ok (.aload_n 0, 1) := by decide +kernel
theorem dX11_trace_3 : decode cX11_trace 3 = .ok (.getfield 92, 3) := by decide +kernel
theorem dX11_trace_6 : decode cX11_trace 6 = .ok (.getfield 382, 3) := by decide +kernel
theorem dX11_trace_9 : decode cX11_trace 9 = .ok (.bipush 24, 2) := by decide +kernel
theorem dX11_trace_11 : decode cX11_trace 11 = .ok (.invokestatic 392, 3) := by decide +kernel
theorem dX11_trace_14 : decode cX11_trace 14 = .ok (.iconst 1, 1) := by decide +kernel
theorem dX11_trace_15 : decode cX11_trace 15 = .ok (.isub, 1) := by decide +kernel
theorem dX11_trace_16 : decode cX11_trace 16 = .ok (.invokestatic 117, 3) := by decide +kernel
theorem dX11_trace_19 : decode cX11_trace 19 = .ok (.ifCond .eq 15, 3) := by decide +kernel
theorem dX11_trace_22 : decode cX11_trace 22 = .ok (.aload_n 0, 1) := by decide +kernel
theorem dX11_trace_23 : decode cX11_trace 23 = .ok (.getfield 92, 3) := by decide +kernel
theorem dX11_trace_26 : decode cX11_trace 26 = .ok (.getfield 397, 3) := by decide +kernel
theorem dX11_trace_29 : decode cX11_trace 29 = .ok (.iload_n 1, 1) := by decide +kernel
theorem dX11_trace_30 : decode cX11_trace 30 = .ok (.iaload, 1) := by decide +kernel
theorem dX11_trace_31 : decode cX11_trace 31 = .ok (.goto 4, 3) := by decide +kernel
theorem dX11_trace_34 : decode cX11_trace 34 = .ok (.iconst (-1), 1) := by decide +kernel
theorem dX11_trace_35 : decode cX11_trace 35 = .ok (.ireturn, 1) := by decide +kernel
theorem ok_yX11_trace : yOk yX11_trace 1 := ⟨by decide +kernel, by decide +kernel, by decide +kernel⟩
def fX11_trace (st : St) (a1 : Int32) : Option (Int32) := if bI (fX11_isWithin a1 (0 : Int32) ((mnI (gI st 49 3) (24 : Int32)) - (1 : Int32))) = 0 then (some (-1 : Int32)) else (gd (inB a1 24) (some (gI st 51 a1.toNatClampNeg)))
set_option maxHeartbeats 4000000 in
theorem zX11_trace (l : Launch) (X : WX) (st : St) (a1 : Int32) (R : Int32) (hf : fX11_trace st a1 = some R) : CtI l yX11_trace cX11_trace 2 .int ({ frames := 1, cells := 0, slots := 0, locals := 22 }) EC 65 X [.ref (xq X 0), .int a1] st R st := by
  refine ct_in (own := RX11) (by decide +kernel) rfl (Nat.le_of_ble_eq_true rfl) (fun p e s m below meth c C hr hw ls hl => ?_)
  obtain ⟨hx, hb, hml, hown, hts⟩ := id C.1
  have hl : lv_has ls 2 [(0, .ref (xq X 0)), (1, .int a1)] := hl
  unfold fX11_trace at hf
  refine lv_iload_n hx hb dX11_trace_0 rfl (lv_at hl 1 rfl) ?_
  refine lv_iconst (v := 0) hx hb dX11_trace_1 (by decide) ?_
  refine lv_aload_n hx hb dX11_trace_2 rfl (lv_at hl 0 rfl) ?_
  refine w_get (T := TX11) C hw (by decide) 12 kf_X11_92 (EC_0 X _ _) rfl inA11 (by decide) rfl dX11_trace_3 ?_
  refine w_get (T := TX0) C hw (by decide) 3 kf_X11_382 (EC_49 X _ _) rfl inA0 (by decide) rfl dX11_trace_6 ?_
  refine lv_bipush (v := 24) hx hb dX11_trace_9 (by decide) ?_
  refine w_min C hl.1 km_X11_392 (Nat.le_of_ble_eq_true rfl) (Nat.le_of_ble_eq_true rfl) (Nat.zero_le _) (Nat.zero_le _) dX11_trace_11 ?_
  refine lv_iconst (v := 1) hx hb dX11_trace_14 (by decide) ?_
  refine lv_isub hx hb dX11_trace_15 ?_
  refine w_goI hw (w_runS (rest := []) C hw (zX11_isWithin _ _ st a1 (0 : Int32) ((mnI (gI st 49 3) (24 : Int32)) - (1 : Int32))) km_X11_117 kt_yX11_isWithin kz_X11 kc_X11_isWithin ok_yX11_isWithin ⟨Nat.le_of_ble_eq_true rfl, Nat.le_of_ble_eq_true rfl⟩ rfl rfl rfl rfl hl.1 (Nat.le_of_ble_eq_true rfl) dX11_trace_16 ⟨Nat.zero_le _, Nat.zero_le _⟩) (fun H locs hw => ?_)
  refine lv_if_eq (tgt := 34) hx hb dX11_trace_19 (by decide) (fun c1 => ?_) (fun c1 => ?_)
  · replace hf := ite_t hf c1
    refine lv_iconst (v := -1) hx hb dX11_trace_34 (by decide) ?_
    exact w_iret C hw hr (Option.some.inj hf) rfl dX11_trace_35
  · replace hf := ite_f hf c1
    refine lv_aload_n hx hb dX11_trace_22 rfl (lv_at hl 0 rfl) ?_
    refine w_get (T := TX11) C hw (by decide) 12 kf_X11_92 (EC_0 X _ _) rfl inA11 (by decide) rfl dX11_trace_23 ?_
    refine w_get (T := TX0) C hw (by decide) 2 kf_X11_397 (EC_49 X _ _) rfl inA0 (by decide) rfl dX11_trace_26 ?_
    refine lv_iload_n hx hb dX11_trace_29 rfl (lv_at hl 1 rfl) ?_
    obtain ⟨h2, hf⟩ := gd_some hf
    refine w_iald C hw (by decide) (EC_51 X _ _) h2 rfl dX11_trace_30 ?_
    refine lv_goto (tgt := 35) hx hb dX11_trace_31 (by decide) ?_
    exact w_iret C hw hr (Option.some.inj hf) rfl dX11_trace_35
theorem dX11_keep_0 : decode cX11_keep 0 = .ok (.iload_n 1, 1) := by decide +kernel
theorem dX11_keep_1 : decode cX11_keep 1 = .ok (.invokestatic 127, 3) := by decide +kernel
theorem dX11_keep_4 : decode cX11_keep 4 = .ok (.ifCond .eq 16, 3) := by decide +kernel
theorem dX11_keep_7 : decode cX11_keep 7 = .ok (.iload_n 2, 1) := by decide +kernel
theorem dX11_keep_8 : decode cX11_keep 8 = .ok (.iconst (-1), 1) := by decide +kernel
theorem dX11_keep_9 : decode cX11_keep 9 = .ok (.if_icmp .eq 13, 3) := by decide +kernel
theorem dX11_keep_12 : decode cX11_keep 12 = .ok (.aload_n 0, 1) := by decide +kernel
theorem dX11_keep_13 : decode cX11_keep 13 = .ok (.iload_n 2, 1) := by decide +kernel
theorem dX11_keep_14 : decode cX11_keep 14 = .ok (.invokevirtual 385, 3) := by decide +kernel
theorem dX11_keep_17 : decode cX11_keep 17 = .ok (.ifCond .ne 5, 3) := by decide +kernel
theorem dX11_keep_20 : decode cX11_keep 20 = .ok (.iconst (-1), 1) := by decide +kernel
theorem dX11_keep_21 : decode cX11_keep 21 = .ok (.ireturn, 1) := by decide +kernel
theorem dX11_keep_22 : decode cX11_keep 22 = .ok (.aload_n 0, 1) := by decide +kernel
theorem dX11_keep_23 : decode cX11_keep 23 = .ok (.getfield 98, 3) := by decide +kernel
theorem dX11_keep_26 : decode cX11_keep 26 = .ok (.iload_n 1, 1) := by decide +kernel
theorem dX11_keep_27 : decode cX11_keep 27 = .ok (.aaload, 1) := by decide +kernel
theorem dX11_keep_28 : decode cX11_keep 28 = .ok (.iload_n 2, 1) := by decide +kernel
theorem dX11_keep_29 : decode cX11_keep 29 = .ok (.invokevirtual 400, 3) := by decide +kernel
theorem dX11_keep_32 : decode cX11_keep 32 = .ok (.iconst 1, 1) := by decide +kernel
theorem dX11_keep_33 : decode cX11_keep 33 = .ok (.ireturn, 1) := by decide +kernel
theorem ok_yX11_keep : yOk yX11_keep 2 := ⟨by decide +kernel, by decide +kernel, by decide +kernel⟩
def fX11_keep (st : St) (a1 : Int32) (a2 : Int32) : Option (Int32 × St) := if bI (fX11_isShelf a1) = 0 then (some ((-1 : Int32), st)) else (if a2 = (-1 : Int32) then (gd (inB a1 6) (bnd (fX7_hold st a1.toNatClampNeg a2) (fun r4 => some ((1 : Int32), r4)))) else (if bI (fX11_isBody st a2) = 0 then (some ((-1 : Int32), st)) else (gd (inB a1 6) (bnd (fX7_hold st a1.toNatClampNeg a2) (fun r8 => some ((1 : Int32), r8))))))
set_option maxHeartbeats 4000000 in
theorem zX11_keep (l : Launch) (X : WX) (st : St) (a1 : Int32) (a2 : Int32) (R : Int32 × St) (hf : fX11_keep st a1 a2 = some R) : CtI l yX11_keep cX11_keep 3 .int ({ frames := 2, cells := 0, slots := 0, locals := 43 }) EC 65 X [.ref (xq X 0), .int a1, .int a2] st R.1 R.2 := by
  refine ct_in (own := RX11) (by decide +kernel) rfl (Nat.le_of_ble_eq_true rfl) (fun p e s m below meth c C hr hw ls hl => ?_)
  obtain ⟨hx, hb, hml, hown, hts⟩ := id C.1
  have hl : lv_has ls 3 [(0, .ref (xq X 0)), (1, .int a1), (2, .int a2)] := hl
  unfold fX11_keep at hf
  refine lv_iload_n hx hb dX11_keep_0 rfl (lv_at hl 1 rfl) ?_
  refine w_goI hw (w_runS (rest := []) C hw (zX11_isShelf _ _ st a1) km_X11_127 kt_yX11_isShelf kz_X11 kc_X11_isShelf ok_yX11_isShelf ⟨Nat.le_of_ble_eq_true rfl, Nat.le_of_ble_eq_true rfl⟩ rfl rfl rfl rfl hl.1 (Nat.le_of_ble_eq_true rfl) dX11_keep_1 ⟨Nat.zero_le _, Nat.zero_le _⟩) (fun H locs hw => ?_)
  refine lv_if_eq (tgt := 20) hx hb dX11_keep_4 (by decide) (fun c1 => ?_) (fun c1 => ?_)
  · replace hf := ite_t hf c1
    refine lv_iconst (v := -1) hx hb dX11_keep_20 (by decide) ?_
    exact w_iret C hw hr (so2 hf).1 (so2 hf).2 dX11_keep_21
  · replace hf := ite_f hf c1
    refine lv_iload_n hx hb dX11_keep_7 rfl (lv_at hl 2 rfl) ?_
    refine lv_iconst (v := -1) hx hb dX11_keep_8 (by decide) ?_
    refine lv_icmp_eq (tgt := 22) hx hb dX11_keep_9 (by decide) (fun c2 => ?_) (fun c2 => ?_)
    · replace hf := ite_t hf c2
      refine lv_aload_n hx hb dX11_keep_22 rfl (lv_at hl 0 rfl) ?_
      refine w_get (T := TX11) C hw (by decide) 13 kf_X11_98 (EC_0 X _ _) rfl inA11 (by decide) rfl dX11_keep_23 ?_
      refine lv_iload_n hx hb dX11_keep_26 rfl (lv_at hl 1 rfl) ?_
      obtain ⟨h3, hf⟩ := gd_some hf
      refine w_aald (k' := (53 + 2 * a1.toNatClampNeg)) C hw (by decide) (EC_52 X _ _) rfl rfl h3 rfl dX11_keep_27 ?_
      refine lv_iload_n hx hb dX11_keep_28 rfl (lv_at hl 2 rfl) ?_
      obtain ⟨r4, k5⟩ : ∃ z : St, z = fX7_hold st a1.toNatClampNeg a2 := ⟨_, rfl⟩
      replace hf := bnd_nm hf k5
      refine w_goV hw (w_runV (rest := []) C hw (zX7_hold _ _ st a1.toNatClampNeg a2 (inB_lt h3) r4 k5.symm) (by have := (inB_lt h3); omega) (EC_sh X (inB_lt h3) _ _) rfl km_X11_400 ki_yX7_hold kv_X7_hold kz_X7 kc_X7_hold rfl ok_yX7_hold ⟨Nat.le_of_ble_eq_true rfl, Nat.le_of_ble_eq_true rfl⟩ rfl rfl rfl rfl hl.1 (Nat.le_of_ble_eq_true rfl) dX11_keep_29 ⟨Nat.zero_le _, Nat.zero_le _⟩) (fun H locs hw => ?_)
      refine lv_iconst (v := 1) hx hb dX11_keep_32 (by decide) ?_
      exact w_iret C hw hr (so2 hf).1 (so2 hf).2 dX11_keep_33
    · replace hf := ite_f hf c2
      refine lv_aload_n hx hb dX11_keep_12 rfl (lv_at hl 0 rfl) ?_
      refine lv_iload_n hx hb dX11_keep_13 rfl (lv_at hl 2 rfl) ?_
      refine w_goI hw (w_runV (rest := []) C hw (zX11_isBody _ _ st a2) (by decide) (EC_0 X _ _) rfl km_X11_385 ki_yX11_isBody kv_X11_isBody kz_X11 kc_X11_isBody rfl ok_yX11_isBody ⟨Nat.le_of_ble_eq_true rfl, Nat.le_of_ble_eq_true rfl⟩ rfl rfl rfl rfl hl.1 (Nat.le_of_ble_eq_true rfl) dX11_keep_14 ⟨Nat.zero_le _, Nat.zero_le _⟩) (fun H locs hw => ?_)
      refine lv_if_ne (tgt := 22) hx hb dX11_keep_17 (by decide) (fun c6 => ?_) (fun c6 => ?_)
      · replace hf := ite_f hf c6
        refine lv_aload_n hx hb dX11_keep_22 rfl (lv_at hl 0 rfl) ?_
        refine w_get (T := TX11) C hw (by decide) 13 kf_X11_98 (EC_0 X _ _) rfl inA11 (by decide) rfl dX11_keep_23 ?_
        refine lv_iload_n hx hb dX11_keep_26 rfl (lv_at hl 1 rfl) ?_
        obtain ⟨h7, hf⟩ := gd_some hf
        refine w_aald (k' := (53 + 2 * a1.toNatClampNeg)) C hw (by decide) (EC_52 X _ _) rfl rfl h7 rfl dX11_keep_27 ?_
        refine lv_iload_n hx hb dX11_keep_28 rfl (lv_at hl 2 rfl) ?_
        obtain ⟨r8, k9⟩ : ∃ z : St, z = fX7_hold st a1.toNatClampNeg a2 := ⟨_, rfl⟩
        replace hf := bnd_nm hf k9
        refine w_goV hw (w_runV (rest := []) C hw (zX7_hold _ _ st a1.toNatClampNeg a2 (inB_lt h7) r8 k9.symm) (by have := (inB_lt h7); omega) (EC_sh X (inB_lt h7) _ _) rfl km_X11_400 ki_yX7_hold kv_X7_hold kz_X7 kc_X7_hold rfl ok_yX7_hold ⟨Nat.le_of_ble_eq_true rfl, Nat.le_of_ble_eq_true rfl⟩ rfl rfl rfl rfl hl.1 (Nat.le_of_ble_eq_true rfl) dX11_keep_29 ⟨Nat.zero_le _, Nat.zero_le _⟩) (fun H locs hw => ?_)
        refine lv_iconst (v := 1) hx hb dX11_keep_32 (by decide) ?_
        exact w_iret C hw hr (so2 hf).1 (so2 hf).2 dX11_keep_33
      · replace hf := ite_t hf c6
        refine lv_iconst (v := -1) hx hb dX11_keep_20 (by decide) ?_
        exact w_iret C hw hr (so2 hf).1 (so2 hf).2 dX11_keep_21
theorem dX11_row_0 : decode cX11_row 0 = .ok (.iload_n 1, 1) := by decide +kernel
theorem dX11_row_1 : decode cX11_row 1 = .ok (.invokestatic 127, 3) := by decide +kernel
theorem dX11_row_4 : decode cX11_row 4 = .ok (.ifCond .eq 18, 3) := by decide +kernel
theorem dX11_row_7 : decode cX11_row 7 = .ok (.iload_n 2, 1) := by decide +kernel
theorem dX11_row_8 : decode cX11_row 8 = .ok (.iconst 0, 1) := by decide +kernel
theorem dX11_row_9 : decode cX11_row 9 = .ok (.iconst 4, 1) := by decide +kernel
theorem dX11_row_10 : decode cX11_row 10 = .ok (.invokestatic 117, 3) := by decide +kernel
theorem dX11_row_13 : decode cX11_row 13 = .ok (.ifCond .eq 9, 3) := by decide +kernel
theorem dX11_row_16 : decode cX11_row 16 = .ok (.iload_n 3, 1) := by decide +kernel
theorem dX11_row_17 : decode cX11_row 17 = .ok (.bipush 60, 2) := by decide +kernel
theorem dX11_row_19 : decode cX11_row 19 = .ok (.if_icmp .le 5, 3) := by decide +kernel
theorem dX11_row_22 : decode cX11_row 22 = .ok (.iconst (-1), 1) := by decide +kernel
theorem dX11_row_23 : decode cX11_row 23 = .ok (.ireturn, 1) := by decide +kernel
theorem dX11_row_24 : decode cX11_row 24 = .ok (.iload_n 3, 1) := by decide +kernel
theorem dX11_row_25 : decode cX11_row 25 = .ok (.ifCond .ge 6, 3) := by decide +kernel
theorem dX11_row_28 : decode cX11_row 28 = .ok (.bipush (-14), 2) := by decide +kernel
theorem dX11_row_30 : decode cX11_row 30 = .ok (.ireturn, 1) := by decide +kernel
theorem dX11_row_31 : decode cX11_row 31 = .ok (.aload_n 0, 1) := by decide +kernel
theorem dX11_row_32 : decode cX11_row 32 = .ok (.getfield 98, 3) := by decide +kernel
theorem dX11_row_35 : decode cX11_row 35 = .ok (.iload_n 1, 1) := by decide +kernel
theorem dX11_row_36 : decode cX11_row 36 = .ok (.aaload, 1) := by decide +kernel
theorem dX11_row_37 : decode cX11_row 37 = .ok (.iload_n 2, 1) := by decide +kernel
theorem dX11_row_38 : decode cX11_row 38 = .ok (.iload_n 3, 1) := by decide +kernel
theorem dX11_row_39 : decode cX11_row 39 = .ok (.invokevirtual 403, 3) := by decide +kernel
theorem dX11_row_42 : decode cX11_row 42 = .ok (.iconst 1, 1) := by decide +kernel
theorem dX11_row_43 : decode cX11_row 43 = .ok (.ireturn, 1) := by decide +kernel
theorem ok_yX11_row : yOk yX11_row 3 := ⟨by decide +kernel, by decide +kernel, by decide +kernel⟩
def fX11_row (st : St) (a1 : Int32) (a2 : Int32) (a3 : Int32) : Option (Int32 × St) := if bI (fX11_isShelf a1) = 0 then (some ((-1 : Int32), st)) else (if bI (fX11_isWithin a2 (0 : Int32) (4 : Int32)) = 0 then (some ((-1 : Int32), st)) else (if a3 ≤ (60 : Int32) then (if 0 ≤ a3 then (gd (inB a1 6) (bnd (fX7_holdRow st a1.toNatClampNeg a2 a3) (fun r6 => some ((1 : Int32), r6)))) else (some ((-14 : Int32), st))) else (some ((-1 : Int32), st))))
set_option maxHeartbeats 4000000 in
theorem zX11_row (l : Launch) (X : WX) (st : St) (a1 : Int32) (a2 : Int32) (a3 : Int32) (R : Int32 × St) (hf : fX11_row st a1 a2 a3 = some R) : CtI l yX11_row cX11_row 4 .int ({ frames := 2, cells := 0, slots := 0, locals := 46 }) EC 65 X [.ref (xq X 0), .int a1, .int a2, .int a3] st R.1 R.2 := by
  refine ct_in (own := RX11) (by decide +kernel) rfl (Nat.le_of_ble_eq_true rfl) (fun p e s m below meth c C hr hw ls hl => ?_)
  obtain ⟨hx, hb, hml, hown, hts⟩ := id C.1
  have hl : lv_has ls 4 [(0, .ref (xq X 0)), (1, .int a1), (2, .int a2), (3, .int a3)] := hl
  unfold fX11_row at hf
  refine lv_iload_n hx hb dX11_row_0 rfl (lv_at hl 1 rfl) ?_
  refine w_goI hw (w_runS (rest := []) C hw (zX11_isShelf _ _ st a1) km_X11_127 kt_yX11_isShelf kz_X11 kc_X11_isShelf ok_yX11_isShelf ⟨Nat.le_of_ble_eq_true rfl, Nat.le_of_ble_eq_true rfl⟩ rfl rfl rfl rfl hl.1 (Nat.le_of_ble_eq_true rfl) dX11_row_1 ⟨Nat.zero_le _, Nat.zero_le _⟩) (fun H locs hw => ?_)
  refine lv_if_eq (tgt := 22) hx hb dX11_row_4 (by decide) (fun c1 => ?_) (fun c1 => ?_)
  · replace hf := ite_t hf c1
    refine lv_iconst (v := -1) hx hb dX11_row_22 (by decide) ?_
    exact w_iret C hw hr (so2 hf).1 (so2 hf).2 dX11_row_23
  · replace hf := ite_f hf c1
    refine lv_iload_n hx hb dX11_row_7 rfl (lv_at hl 2 rfl) ?_
    refine lv_iconst (v := 0) hx hb dX11_row_8 (by decide) ?_
    refine lv_iconst (v := 4) hx hb dX11_row_9 (by decide) ?_
    refine w_goI hw (w_runS (rest := []) C hw (zX11_isWithin _ _ st a2 (0 : Int32) (4 : Int32)) km_X11_117 kt_yX11_isWithin kz_X11 kc_X11_isWithin ok_yX11_isWithin ⟨Nat.le_of_ble_eq_true rfl, Nat.le_of_ble_eq_true rfl⟩ rfl rfl rfl rfl hl.1 (Nat.le_of_ble_eq_true rfl) dX11_row_10 ⟨Nat.zero_le _, Nat.zero_le _⟩) (fun H locs hw => ?_)
    refine lv_if_eq (tgt := 22) hx hb dX11_row_13 (by decide) (fun c2 => ?_) (fun c2 => ?_)
    · replace hf := ite_t hf c2
      refine lv_iconst (v := -1) hx hb dX11_row_22 (by decide) ?_
      exact w_iret C hw hr (so2 hf).1 (so2 hf).2 dX11_row_23
    · replace hf := ite_f hf c2
      refine lv_iload_n hx hb dX11_row_16 rfl (lv_at hl 3 rfl) ?_
      refine lv_bipush (v := 60) hx hb dX11_row_17 (by decide) ?_
      refine lv_icmp_le (tgt := 24) hx hb dX11_row_19 (by decide) (fun c3 => ?_) (fun c3 => ?_)
      · replace hf := ite_t hf c3
        refine lv_iload_n hx hb dX11_row_24 rfl (lv_at hl 3 rfl) ?_
        refine lv_if_ge (tgt := 31) hx hb dX11_row_25 (by decide) (fun c4 => ?_) (fun c4 => ?_)
        · replace hf := ite_t hf c4
          refine lv_aload_n hx hb dX11_row_31 rfl (lv_at hl 0 rfl) ?_
          refine w_get (T := TX11) C hw (by decide) 13 kf_X11_98 (EC_0 X _ _) rfl inA11 (by decide) rfl dX11_row_32 ?_
          refine lv_iload_n hx hb dX11_row_35 rfl (lv_at hl 1 rfl) ?_
          obtain ⟨h5, hf⟩ := gd_some hf
          refine w_aald (k' := (53 + 2 * a1.toNatClampNeg)) C hw (by decide) (EC_52 X _ _) rfl rfl h5 rfl dX11_row_36 ?_
          refine lv_iload_n hx hb dX11_row_37 rfl (lv_at hl 2 rfl) ?_
          refine lv_iload_n hx hb dX11_row_38 rfl (lv_at hl 3 rfl) ?_
          obtain ⟨r6, k7⟩ : ∃ z : St, z = fX7_holdRow st a1.toNatClampNeg a2 a3 := ⟨_, rfl⟩
          replace hf := bnd_nm hf k7
          refine w_goV hw (w_runV (rest := []) C hw (zX7_holdRow _ _ st a1.toNatClampNeg a2 a3 (inB_lt h5) r6 k7.symm) (by have := (inB_lt h5); omega) (EC_sh X (inB_lt h5) _ _) rfl km_X11_403 ki_yX7_holdRow kv_X7_holdRow kz_X7 kc_X7_holdRow rfl ok_yX7_holdRow ⟨Nat.le_of_ble_eq_true rfl, Nat.le_of_ble_eq_true rfl⟩ rfl rfl rfl rfl hl.1 (Nat.le_of_ble_eq_true rfl) dX11_row_39 ⟨Nat.zero_le _, Nat.zero_le _⟩) (fun H locs hw => ?_)
          refine lv_iconst (v := 1) hx hb dX11_row_42 (by decide) ?_
          exact w_iret C hw hr (so2 hf).1 (so2 hf).2 dX11_row_43
        · replace hf := ite_f hf c4
          refine lv_bipush (v := -14) hx hb dX11_row_28 (by decide) ?_
          exact w_iret C hw hr (so2 hf).1 (so2 hf).2 dX11_row_30
      · replace hf := ite_f hf c3
        refine lv_iconst (v := -1) hx hb dX11_row_22 (by decide) ?_
        exact w_iret C hw hr (so2 hf).1 (so2 hf).2 dX11_row_23
theorem dX11_refusalOfElement_0 : decode cX11_refusalOfElement 0 = .ok (.iload_n 1, 1) := by decide +kernel
theorem dX11_refusalOfElement_1 : decode cX11_refusalOfElement 1 = .ok (.invokestatic 127, 3) := by decide +kernel
theorem dX11_refusalOfElement_4 : decode cX11_refusalOfElement 4 = .ok (.ifCond .eq 16, 3) := by decide +kernel
theorem dX11_refusalOfElement_7 : decode cX11_refusalOfElement 7 = .ok (.aload_n 0, 1) := by decide +kernel
theorem dX11_refusalOfElement_8 : decode cX11_refusalOfElement 8 = .ok (.getfield 98, 3) := by decide +kernel
theorem dX11_refusalOfElement_11 : decode cX11_refusalOfElement 11 = .ok (.iload_n 1, 1) := by decide +kernel
theorem dX11_refusalOfElement_12 : decode cX11_refusalOfElement 12 = .ok (.aaload, 1) := by decide +kernel
theorem dX11_refusalOfElement_13 : decode cX11_refusalOfElement 13 = .ok (.iload_n 2, 1) := by decide +kernel
theorem dX11_refusalOfElement_14 : decode cX11_refusalOfElement 14 = .ok (.invokevirtual 438, 3) := by decide +kernel
theorem dX11_refusalOfElement_17 : decode cX11_refusalOfElement 17 = .ok (.goto 4, 3) := by decide +kernel
theorem dX11_refusalOfElement_20 : decode cX11_refusalOfElement 20 = .ok (.iconst (-1), 1) := by decide +kernel
theorem dX11_refusalOfElement_21 : decode cX11_refusalOfElement 21 = .ok (.ireturn, 1) := by decide +kernel
theorem ok_yX11_refusalOfElement : yOk yX11_refusalOfElement 2 := ⟨by decide +kernel, by decide +kernel, by decide +kernel⟩
def fX11_refusalOfElement (st : St) (a1 : Int32) (a2 : Int32) : Option (Int32) := if bI (fX11_isShelf a1) = 0 then (some (-1 : Int32)) else (gd (inB a1 6) (some (fX7_refusalOfPlace st a1.toNatClampNeg a2)))
set_option maxHeartbeats 4000000 in
theorem zX11_refusalOfElement (l : Launch) (X : WX) (st : St) (a1 : Int32) (a2 : Int32) (R : Int32) (hf : fX11_refusalOfElement st a1 a2 = some R) : CtI l yX11_refusalOfElement cX11_refusalOfElement 3 .int ({ frames := 2, cells := 0, slots := 0, locals := 43 }) EC 65 X [.ref (xq X 0), .int a1, .int a2] st R st := by
  refine ct_in (own := RX11) (by decide +kernel) rfl (Nat.le_of_ble_eq_true rfl) (fun p e s m below meth c C hr hw ls hl => ?_)
  obtain ⟨hx, hb, hml, hown, hts⟩ := id C.1
  have hl : lv_has ls 3 [(0, .ref (xq X 0)), (1, .int a1), (2, .int a2)] := hl
  unfold fX11_refusalOfElement at hf
  refine lv_iload_n hx hb dX11_refusalOfElement_0 rfl (lv_at hl 1 rfl) ?_
  refine w_goI hw (w_runS (rest := []) C hw (zX11_isShelf _ _ st a1) km_X11_127 kt_yX11_isShelf kz_X11 kc_X11_isShelf ok_yX11_isShelf ⟨Nat.le_of_ble_eq_true rfl, Nat.le_of_ble_eq_true rfl⟩ rfl rfl rfl rfl hl.1 (Nat.le_of_ble_eq_true rfl) dX11_refusalOfElement_1 ⟨Nat.zero_le _, Nat.zero_le _⟩) (fun H locs hw => ?_)
  refine lv_if_eq (tgt := 20) hx hb dX11_refusalOfElement_4 (by decide) (fun c1 => ?_) (fun c1 => ?_)
  · replace hf := ite_t hf c1
    refine lv_iconst (v := -1) hx hb dX11_refusalOfElement_20 (by decide) ?_
    exact w_iret C hw hr (Option.some.inj hf) rfl dX11_refusalOfElement_21
  · replace hf := ite_f hf c1
    refine lv_aload_n hx hb dX11_refusalOfElement_7 rfl (lv_at hl 0 rfl) ?_
    refine w_get (T := TX11) C hw (by decide) 13 kf_X11_98 (EC_0 X _ _) rfl inA11 (by decide) rfl dX11_refusalOfElement_8 ?_
    refine lv_iload_n hx hb dX11_refusalOfElement_11 rfl (lv_at hl 1 rfl) ?_
    obtain ⟨h2, hf⟩ := gd_some hf
    refine w_aald (k' := (53 + 2 * a1.toNatClampNeg)) C hw (by decide) (EC_52 X _ _) rfl rfl h2 rfl dX11_refusalOfElement_12 ?_
    refine lv_iload_n hx hb dX11_refusalOfElement_13 rfl (lv_at hl 2 rfl) ?_
    refine w_goI hw (w_runV (rest := []) C hw (zX7_refusalOfPlace _ _ st a1.toNatClampNeg a2 (inB_lt h2)) (by have := (inB_lt h2); omega) (EC_sh X (inB_lt h2) _ _) rfl km_X11_438 ki_yX7_refusalOfPlace kv_X7_refusalOfPlace kz_X7 kc_X7_refusalOfPlace rfl ok_yX7_refusalOfPlace ⟨Nat.le_of_ble_eq_true rfl, Nat.le_of_ble_eq_true rfl⟩ rfl rfl rfl rfl hl.1 (Nat.le_of_ble_eq_true rfl) dX11_refusalOfElement_14 ⟨Nat.zero_le _, Nat.zero_le _⟩) (fun H locs hw => ?_)
    refine lv_goto (tgt := 21) hx hb dX11_refusalOfElement_17 (by decide) ?_
    exact w_iret C hw hr (Option.some.inj hf) rfl dX11_refusalOfElement_21
theorem dX11_put_0 : decode cX11_put 0 = .ok (.aload_n 0, 1) := by decide +kernel
theorem dX11_put_1 : decode cX11_put 1 = .ok (.iload_n 1, 1) := by decide +kernel
theorem dX11_put_2 : decode cX11_put 2 = .ok (.iload_n 2, 1) := by decide +kernel
theorem dX11_put_3 : decode cX11_put 3 = .ok (.invokevirtual 407, 3) := by decide +kernel
theorem dX11_put_6 : decode cX11_put 6 = .ok (.istore 5, 2) := by decide +kernel
theorem dX11_put_8 : decode cX11_put 8 = .ok (.iload 5, 2) := by decide +kernel
theorem dX11_put_10 : decode cX11_put 10 = .ok (.ifCond .eq 6, 3) := by decide +kernel
theorem dX11_put_13 : decode cX11_put 13 = .ok (.iload 5, 2) := by decide +kernel
theorem dX11_put_15 : decode cX11_put 15 = .ok (.ireturn, 1) := by decide +kernel
theorem dX11_put_16 : decode cX11_put 16 = .ok (.aload_n 0, 1) := by decide +kernel
theorem dX11_put_17 : decode cX11_put 17 = .ok (.getfield 98, 3) := by decide +kernel
theorem dX11_put_20 : decode cX11_put 20 = .ok (.iload_n 1, 1) := by decide +kernel
theorem dX11_put_21 : decode cX11_put 21 = .ok (.aaload, 1) := by decide +kernel
theorem dX11_put_22 : decode cX11_put 22 = .ok (.astore 6, 2) := by decide +kernel
theorem dX11_put_24 : decode cX11_put 24 = .ok (.aload 6, 2) := by decide +kernel
theorem dX11_put_26 : decode cX11_put 26 = .ok (.getfield 141, 3) := by decide +kernel
theorem dX11_put_29 : decode cX11_put 29 = .ok (.iload_n 2, 1) := by decide +kernel
theorem dX11_put_30 : decode cX11_put 30 = .ok (.aload 6, 2) := by decide +kernel
theorem dX11_put_32 : decode cX11_put 32 = .ok (.lload_n 3, 1) := by decide +kernel
theorem dX11_put_33 : decode cX11_put 33 = .ok (.invokevirtual 410, 3) := by decide +kernel
theorem dX11_put_36 : decode cX11_put 36 = .ok (.lastore, 1) := by decide +kernel
theorem dX11_put_37 : decode cX11_put 37 = .ok (.iconst 1, 1) := by decide +kernel
theorem dX11_put_38 : decode cX11_put 38 = .ok (.ireturn, 1) := by decide +kernel
theorem ok_yX11_put : yOk yX11_put 3 := ⟨by decide +kernel, by decide +kernel, by decide +kernel⟩
def fX11_put (st : St) (a1 : Int32) (a2 : Int32) (a3 : Int64) : Option (Int32 × St) := (fX11_refusalOfElement st a1 a2).bind (fun r1 => if r1 = 0 then (gd (inB a1 6) (gd (inB a2 60) (bnd (sL st (54 + 2 * a1.toNatClampNeg) a2.toNatClampNeg (fX7_lowestBits st a1.toNatClampNeg a3)) (fun st6 => some ((1 : Int32), st6))))) else (some (r1, st)))
set_option maxHeartbeats 4000000 in
theorem zX11_put (l : Launch) (X : WX) (st : St) (a1 : Int32) (a2 : Int32) (a3 : Int64) (R : Int32 × St) (hf : fX11_put st a1 a2 a3 = some R) : CtI l yX11_put cX11_put 7 .int ({ frames := 3, cells := 0, slots := 0, locals := 65 }) EC 65 X [.ref (xq X 0), .int a1, .int a2, .long a3] st R.1 R.2 := by
  refine ct_in (own := RX11) (by decide +kernel) rfl (Nat.le_of_ble_eq_true rfl) (fun p e s m below meth c C hr hw ls hl => ?_)
  obtain ⟨hx, hb, hml, hown, hts⟩ := id C.1
  have hl : lv_has ls 7 [(0, .ref (xq X 0)), (1, .int a1), (2, .int a2), (3, .long a3)] := hl
  unfold fX11_put at hf
  refine lv_aload_n hx hb dX11_put_0 rfl (lv_at hl 0 rfl) ?_
  refine lv_iload_n hx hb dX11_put_1 rfl (lv_at hl 1 rfl) ?_
  refine lv_iload_n hx hb dX11_put_2 rfl (lv_at hl 2 rfl) ?_
  obtain ⟨r1, k2, hf⟩ := bd_some hf
  refine w_goI hw (w_runV (rest := []) C hw (zX11_refusalOfElement _ _ st a1 a2 r1 k2) (by decide) (EC_0 X _ _) rfl km_X11_407 ki_yX11_refusalOfElement kv_X11_refusalOfElement kz_X11 kc_X11_refusalOfElement rfl ok_yX11_refusalOfElement ⟨Nat.le_of_ble_eq_true rfl, Nat.le_of_ble_eq_true rfl⟩ rfl rfl rfl rfl hl.1 (Nat.le_of_ble_eq_true rfl) dX11_put_3 ⟨Nat.zero_le _, Nat.zero_le _⟩) (fun H locs hw => ?_)
  refine lv_istore (lv' := [(5, .int r1), (0, .ref (xq X 0)), (1, .int a1), (2, .int a2), (3, .long a3)]) hx hb dX11_put_6 hl (by decide) rfl (fun ls hl => ?_)
  refine lv_iload hx hb dX11_put_8 (lv_at hl 0 rfl) ?_
  refine lv_if_eq (tgt := 16) hx hb dX11_put_10 (by decide) (fun c3 => ?_) (fun c3 => ?_)
  · replace hf := ite_t hf c3
    refine lv_aload_n hx hb dX11_put_16 rfl (lv_at hl 1 rfl) ?_
    refine w_get (T := TX11) C hw (by decide) 13 kf_X11_98 (EC_0 X _ _) rfl inA11 (by decide) rfl dX11_put_17 ?_
    refine lv_iload_n hx hb dX11_put_20 rfl (lv_at hl 2 rfl) ?_
    obtain ⟨h4, hf⟩ := gd_some hf
    refine w_aald (k' := (53 + 2 * a1.toNatClampNeg)) C hw (by decide) (EC_52 X _ _) rfl rfl h4 rfl dX11_put_21 ?_
    refine lv_astore (lv' := [(6, .ref (xq X (53 + 2 * a1.toNatClampNeg))), (5, .int r1), (0, .ref (xq X 0)), (1, .int a1), (2, .int a2), (3, .long a3)]) hx hb dX11_put_22 hl (by decide) rfl (fun ls hl => ?_)
    refine lv_aload hx hb dX11_put_24 (lv_at hl 0 rfl) ?_
    refine w_get (T := TX7) C hw (by have := (inB_lt h4); omega) 4 kf_X11_141 (EC_sh X (inB_lt h4) _ _) rfl inA7 (by decide) rfl dX11_put_26 ?_
    refine lv_iload_n hx hb dX11_put_29 rfl (lv_at hl 4 rfl) ?_
    refine lv_aload hx hb dX11_put_30 (lv_at hl 0 rfl) ?_
    refine lv_lload_n hx hb dX11_put_32 rfl (lv_at hl 5 rfl) ?_
    refine w_goL hw (w_runV (rest := [.int a2, .ref (xq X (54 + 2 * a1.toNatClampNeg))]) C hw (zX7_lowestBits _ _ st a1.toNatClampNeg a3 (inB_lt h4)) (by have := (inB_lt h4); omega) (EC_sh X (inB_lt h4) _ _) rfl km_X11_410 ki_yX7_lowestBits kv_X7_lowestBits kz_X7 kc_X7_lowestBits rfl ok_yX7_lowestBits ⟨Nat.le_of_ble_eq_true rfl, Nat.le_of_ble_eq_true rfl⟩ rfl rfl rfl rfl hl.1 (Nat.le_of_ble_eq_true rfl) dX11_put_33 ⟨Nat.zero_le _, Nat.zero_le _⟩) (fun H locs hw => ?_)
    obtain ⟨h5, hf⟩ := gd_some hf
    obtain ⟨st6, es7⟩ : ∃ z : St, z = sL st (54 + 2 * a1.toNatClampNeg) a2.toNatClampNeg (fX7_lowestBits st a1.toNatClampNeg a3) := ⟨_, rfl⟩
    replace hf := bnd_nm hf es7
    refine w_last C hw (by have := (inB_lt h4); omega) (fun g9 => EC_el X (inB_lt h4) _ g9) h5 rfl dX11_put_36 (fun H locs hw => ?_)
    rw [← es7] at hw
    refine lv_iconst (v := 1) hx hb dX11_put_37 (by decide) ?_
    exact w_iret C hw hr (so2 hf).1 (so2 hf).2 dX11_put_38
  · replace hf := ite_f hf c3
    refine lv_iload hx hb dX11_put_13 (lv_at hl 0 rfl) ?_
    exact w_iret C hw hr (so2 hf).1 (so2 hf).2 dX11_put_15
theorem dX11_element_0 : decode cX11_element 0 = .ok (.aload_n 0, 1) := by decide +kernel
theorem dX11_element_1 : decode cX11_element 1 = .ok (.iload_n 1, 1) := by decide +kernel
theorem dX11_element_2 : decode cX11_element 2 = .ok (.iload_n 2, 1) := by decide +kernel
theorem dX11_element_3 : decode cX11_element 3 = .ok (.invokevirtual 407, 3) := by decide +kernel
theorem dX11_element_6 : decode cX11_element 6 = .ok (.ifCond .eq 9, 3) := by decide +kernel
theorem dX11_element_9 : decode cX11_element 9 = .ok (.ldc2_w 416, 3) := by decide +kernel
theorem dX11_element_12 : decode cX11_element 12 = .ok (.goto 14, 3) := by decide +kernel
theorem dX11_element_15 : decode cX11_element 15 = .ok (.aload_n 0, 1) := by decide +kernel
theorem dX11_element_16 : decode cX11_element 16 = .ok (.getfield 98, 3) := by decide +kernel
theorem dX11_element_19 : decode cX11_element 19 = .ok (.iload_n 1, 1) := by decide +kernel
theorem dX11_element_20 : decode cX11_element 20 = .ok (.aaload, 1) := by decide +kernel
theorem dX11_element_21 : decode cX11_element 21 = .ok (.getfield 141, 3) := by decide +kernel
theorem dX11_element_24 : decode cX11_element 24 = .ok (.iload_n 2, 1) := by decide +kernel
theorem dX11_element_25 : decode cX11_element 25 = .ok (.laload, 1) := by decide +kernel
theorem dX11_element_26 : decode cX11_element 26 = .ok (.lreturn, 1) := by decide +kernel
theorem ok_yX11_element : yOk yX11_element 2 := ⟨by decide +kernel, by decide +kernel, by decide +kernel⟩
def fX11_element (st : St) (a1 : Int32) (a2 : Int32) : Option (Int64) := (fX11_refusalOfElement st a1 a2).bind (fun r1 => if r1 = 0 then (gd (inB a1 6) (gd (inB a2 60) (some (gL st (54 + 2 * a1.toNatClampNeg) a2.toNatClampNeg)))) else (some (-9223372036854775808 : Int64)))
set_option maxHeartbeats 4000000 in
theorem zX11_element (l : Launch) (X : WX) (st : St) (a1 : Int32) (a2 : Int32) (R : Int64) (hf : fX11_element st a1 a2 = some R) : CtL l yX11_element cX11_element 3 ({ frames := 3, cells := 0, slots := 0, locals := 65 }) EC 65 X [.ref (xq X 0), .int a1, .int a2] st R st := by
  refine ct_in (own := RX11) (by decide +kernel) rfl (Nat.le_of_ble_eq_true rfl) (fun p e s m below meth c C hr hw ls hl => ?_)
  obtain ⟨hx, hb, hml, hown, hts⟩ := id C.1
  have hl : lv_has ls 3 [(0, .ref (xq X 0)), (1, .int a1), (2, .int a2)] := hl
  unfold fX11_element at hf
  refine lv_aload_n hx hb dX11_element_0 rfl (lv_at hl 0 rfl) ?_
  refine lv_iload_n hx hb dX11_element_1 rfl (lv_at hl 1 rfl) ?_
  refine lv_iload_n hx hb dX11_element_2 rfl (lv_at hl 2 rfl) ?_
  obtain ⟨r1, k2, hf⟩ := bd_some hf
  refine w_goI hw (w_runV (rest := []) C hw (zX11_refusalOfElement _ _ st a1 a2 r1 k2) (by decide) (EC_0 X _ _) rfl km_X11_407 ki_yX11_refusalOfElement kv_X11_refusalOfElement kz_X11 kc_X11_refusalOfElement rfl ok_yX11_refusalOfElement ⟨Nat.le_of_ble_eq_true rfl, Nat.le_of_ble_eq_true rfl⟩ rfl rfl rfl rfl hl.1 (Nat.le_of_ble_eq_true rfl) dX11_element_3 ⟨Nat.zero_le _, Nat.zero_le _⟩) (fun H locs hw => ?_)
  refine lv_if_eq (tgt := 15) hx hb dX11_element_6 (by decide) (fun c3 => ?_) (fun c3 => ?_)
  · replace hf := ite_t hf c3
    refine lv_aload_n hx hb dX11_element_15 rfl (lv_at hl 0 rfl) ?_
    refine w_get (T := TX11) C hw (by decide) 13 kf_X11_98 (EC_0 X _ _) rfl inA11 (by decide) rfl dX11_element_16 ?_
    refine lv_iload_n hx hb dX11_element_19 rfl (lv_at hl 1 rfl) ?_
    obtain ⟨h4, hf⟩ := gd_some hf
    refine w_aald (k' := (53 + 2 * a1.toNatClampNeg)) C hw (by decide) (EC_52 X _ _) rfl rfl h4 rfl dX11_element_20 ?_
    refine w_get (T := TX7) C hw (by have := (inB_lt h4); omega) 4 kf_X11_141 (EC_sh X (inB_lt h4) _ _) rfl inA7 (by decide) rfl dX11_element_21 ?_
    refine lv_iload_n hx hb dX11_element_24 rfl (lv_at hl 2 rfl) ?_
    obtain ⟨h5, hf⟩ := gd_some hf
    refine w_lald C hw (by have := (inB_lt h4); omega) (EC_el X (inB_lt h4) _ _) h5 rfl dX11_element_25 ?_
    exact w_lret C hw hr (Option.some.inj hf) rfl dX11_element_26
  · replace hf := ite_f hf c3
    refine lv_ldc2 (v := -9223372036854775808) hx hb hown (hts _ kn_X11_416) dX11_element_9 ?_
    refine lv_goto (tgt := 26) hx hb dX11_element_12 (by decide) ?_
    exact w_lret C hw hr (Option.some.inj hf) rfl dX11_element_26
theorem dX11_shift_0 : decode cX11_shift 0 = .ok (.iload_n 1, 1) := by decide +kernel
theorem dX11_shift_1 : decode cX11_shift 1 = .ok (.invokestatic 127, 3) := by decide +kernel
theorem dX11_shift_4 : decode cX11_shift 4 = .ok (.ifCond .eq 10, 3) := by decide +kernel
theorem dX11_shift_7 : decode cX11_shift 7 = .ok (.iload_n 3, 1) := by decide +kernel
theorem dX11_shift_8 : decode cX11_shift 8 = .ok (.invokestatic 127, 3) := by decide +kernel
theorem dX11_shift_11 : decode cX11_shift 11 = .ok (.ifCond .ne 5, 3) := by decide +kernel
theorem dX11_shift_14 : decode cX11_shift 14 = .ok (.iconst (-1), 1) := by decide +kernel
theorem dX11_shift_15 : decode cX11_shift 15 = .ok (.ireturn, 1) := by decide +kernel
theorem dX11_shift_16 : decode cX11_shift 16 = .ok (.aload_n 0, 1) := by decide +kernel
theorem dX11_shift_17 : decode cX11_shift 17 = .ok (.getfield 98, 3) := by decide +kernel
theorem dX11_shift_20 : decode cX11_shift 20 = .ok (.iload_n 1, 1) := by decide +kernel
theorem dX11_shift_21 : decode cX11_shift 21 = .ok (.aaload, 1) := by decide +kernel
theorem dX11_shift_22 : decode cX11_shift 22 = .ok (.astore 6, 2) := by decide +kernel
theorem dX11_shift_24 : decode cX11_shift 24 = .ok (.aload_n 0, 1) := by decide +kernel
theorem dX11_shift_25 : decode cX11_shift 25 = .ok (.getfield 98, 3) := by decide +kernel
theorem dX11_shift_28 : decode cX11_shift 28 = .ok (.iload_n 3, 1) := by decide +kernel
theorem dX11_shift_29 : decode cX11_shift 29 = .ok (.aaload, 1) := by decide +kernel
theorem dX11_shift_30 : decode cX11_shift 30 = .ok (.astore 7, 2) := by decide +kernel
theorem dX11_shift_32 : decode cX11_shift 32 = .ok (.aload 6, 2) := by decide +kernel
theorem dX11_shift_34 : decode cX11_shift 34 = .ok (.getfield 418, 3) := by decide +kernel
theorem dX11_shift_37 : decode cX11_shift 37 = .ok (.ifCond .eq 11, 3) := by decide +kernel
theorem dX11_shift_40 : decode cX11_shift 40 = .ok (.aload 7, 2) := by decide +kernel
theorem dX11_shift_42 : decode cX11_shift 42 = .ok (.getfield 418, 3) := by decide +kernel
theorem dX11_shift_45 : decode cX11_shift 45 = .ok (.ifCond .ne 6, 3) := by decide +kernel
theorem dX11_shift_48 : decode cX11_shift 48 = .ok (.bipush (-11), 2) := by decide +kernel
theorem dX11_shift_50 : decode cX11_shift 50 = .ok (.ireturn, 1) := by decide +kernel
theorem dX11_shift_51 : decode cX11_shift 51 = .ok (.aload 6, 2) := by decide +kernel
theorem dX11_shift_53 : decode cX11_shift 53 = .ok (.getfield 418, 3) := by decide +kernel
theorem dX11_shift_56 : decode cX11_shift 56 = .ok (.iconst 2, 1) := by decide +kernel
theorem dX11_shift_57 : decode cX11_shift 57 = .ok (.if_icmp .ne 25, 3) := by decide +kernel
theorem dX11_shift_60 : decode cX11_shift 60 = .ok (.aload 7, 2) := by decide +kernel
theorem dX11_shift_62 : decode cX11_shift 62 = .ok (.getfield 418, 3) := by decide +kernel
theorem dX11_shift_65 : decode cX11_shift 65 = .ok (.iconst 2, 1) := by decide +kernel
theorem dX11_shift_66 : decode cX11_shift 66 = .ok (.if_icmp .ne 16, 3) := by decide +kernel
theorem dX11_shift_69 : decode cX11_shift 69 = .ok (.aload 6, 2) := by decide +kernel
theorem dX11_shift_71 : decode cX11_shift 71 = .ok (.getfield 421, 3) := by decide +kernel
theorem dX11_shift_74 : decode cX11_shift 74 = .ok (.aload 7, 2) := by decide +kernel
theorem dX11_shift_76 : decode cX11_shift 76 = .ok (.getfield 421, 3) := by decide +kernel
theorem dX11_shift_79 : decode cX11_shift 79 = .ok (.if_icmp .eq 6, 3) := by decide +kernel
theorem dX11_shift_82 : decode cX11_shift 82 = .ok (.bipush (-12), 2) := by decide +kernel
theorem dX11_shift_84 : decode cX11_shift 84 = .ok (.ireturn, 1) := by decide +kernel
theorem dX11_shift_85 : decode cX11_shift 85 = .ok (.aload 6, 2) := by decide +kernel
theorem dX11_shift_87 : decode cX11_shift 87 = .ok (.iload_n 2, 1) := by decide +kernel
theorem dX11_shift_88 : decode cX11_shift 88 = .ok (.iload 5, 2) := by decide +kernel
theorem dX11_shift_90 : decode cX11_shift 90 = .ok (.invokevirtual 424, 3) := by decide +kernel
theorem dX11_shift_93 : decode cX11_shift 93 = .ok (.ifCond .eq 15, 3) := by decide +kernel
theorem dX11_shift_96 : decode cX11_shift 96 = .ok (.aload 7, 2) := by decide +kernel
theorem dX11_shift_98 : decode cX11_shift 98 = .ok (.iload 4, 2) := by decide +kernel
theorem dX11_shift_100 : decode cX11_shift 100 = .ok (.iload 5, 2) := by decide +kernel
theorem dX11_shift_102 : decode cX11_shift 102 = .ok (.invokevirtual 424, 3) := by decide +kernel
theorem dX11_shift_105 : decode cX11_shift 105 = .ok (.ifCond .ne 6, 3) := by decide +kernel
theorem dX11_shift_108 : decode cX11_shift 108 = .ok (.bipush (-13), 2) := by decide +kernel
theorem dX11_shift_110 : decode cX11_shift 110 = .ok (.ireturn, 1) := by decide +kernel
theorem dX11_shift_111 : decode cX11_shift 111 = .ok (.aload 6, 2) := by decide +kernel
theorem dX11_shift_113 : decode cX11_shift 113 = .ok (.getfield 141, 3) := by decide +kernel
theorem dX11_shift_116 : decode cX11_shift 116 = .ok (.iload_n 2, 1) := by decide +kernel
theorem dX11_shift_117 : decode cX11_shift 117 = .ok (.aload 7, 2) := by decide +kernel
theorem dX11_shift_119 : decode cX11_shift 119 = .ok (.getfield 141, 3) := by decide +kernel
theorem dX11_shift_122 : decode cX11_shift 122 = .ok (.iload 4, 2) := by decide +kernel
theorem dX11_shift_124 : decode cX11_shift 124 = .ok (.iload 5, 2) := by decide +kernel
theorem dX11_shift_126 : decode cX11_shift 126 = .ok (.invokestatic 357, 3) := by decide +kernel
theorem dX11_shift_129 : decode cX11_shift 129 = .ok (.iload 5, 2) := by decide +kernel
theorem dX11_shift_131 : decode cX11_shift 131 = .ok (.ireturn, 1) := by decide +kernel
theorem ok_yX11_shift : yOk yX11_shift 5 := ⟨by decide +kernel, by decide +kernel, by decide +kernel⟩
def fX11_shift (st : St) (a1 : Int32) (a2 : Int32) (a3 : Int32) (a4 : Int32) (a5 : Int32) : Option (Int32 × St) := if bI (fX11_isShelf a1) = 0 then (some ((-1 : Int32), st)) else (if bI (fX11_isShelf a3) = 0 then (some ((-1 : Int32), st)) else (gd (inB a1 6) (gd (inB a3 6) (if gI st (53 + 2 * a1.toNatClampNeg) 0 = 0 then (some ((-11 : Int32), st)) else (if gI st (53 + 2 * a3.toNatClampNeg) 0 = 0 then (some ((-11 : Int32), st)) else (if gI st (53 + 2 * a1.toNatClampNeg) 0 = (2 : Int32) then (if gI st (53 + 2 * a3.toNatClampNeg) 0 = (2 : Int32) then (if gI st (53 + 2 * a1.toNatClampNeg) 2 = gI st (53 + 2 * a3.toNatClampNeg) 2 then (if bI (fX7_hasPlaces st a1.toNatClampNeg a2 a5) = 0 then (some ((-13 : Int32), st)) else (if bI (fX7_hasPlaces st a3.toNatClampNeg a4 a5) = 0 then (some ((-13 : Int32), st)) else (gd (cpB a2 a4 a5 60 60) (bnd (sLs st (54 + 2 * a3.toNatClampNeg) (va_cpy (gL st (54 + 2 * a1.toNatClampNeg)) (gL st (54 + 2 * a3.toNatClampNeg)) a2.toNatClampNeg a4.toNatClampNeg a5.toNatClampNeg)) (fun st13 => some (a5, st13)))))) else (some ((-12 : Int32), st))) else (some ((-12 : Int32), st))) else (some ((-12 : Int32), st))))))))
set_option maxHeartbeats 4000000 in
theorem zX11_shift (l : Launch) (X : WX) (st : St) (a1 : Int32) (a2 : Int32) (a3 : Int32) (a4 : Int32) (a5 : Int32) (R : Int32 × St) (hf : fX11_shift st a1 a2 a3 a4 a5 = some R) : CtI l yX11_shift cX11_shift 8 .int ({ frames := 2, cells := 0, slots := 0, locals := 64 }) EC 65 X [.ref (xq X 0), .int a1, .int a2, .int a3, .int a4, .int a5] st R.1 R.2 := by
  refine ct_in (own := RX11) (by decide +kernel) rfl (Nat.le_of_ble_eq_true rfl) (fun p e s m below meth c C hr hw ls hl => ?_)
  obtain ⟨hx, hb, hml, hown, hts⟩ := id C.1
  have hl : lv_has ls 8 [(0, .ref (xq X 0)), (1, .int a1), (2, .int a2), (3, .int a3), (4, .int a4), (5, .int a5)] := hl
  unfold fX11_shift at hf
  refine lv_iload_n hx hb dX11_shift_0 rfl (lv_at hl 1 rfl) ?_
  refine w_goI hw (w_runS (rest := []) C hw (zX11_isShelf _ _ st a1) km_X11_127 kt_yX11_isShelf kz_X11 kc_X11_isShelf ok_yX11_isShelf ⟨Nat.le_of_ble_eq_true rfl, Nat.le_of_ble_eq_true rfl⟩ rfl rfl rfl rfl hl.1 (Nat.le_of_ble_eq_true rfl) dX11_shift_1 ⟨Nat.zero_le _, Nat.zero_le _⟩) (fun H locs hw => ?_)
  refine lv_if_eq (tgt := 14) hx hb dX11_shift_4 (by decide) (fun c1 => ?_) (fun c1 => ?_)
  · replace hf := ite_t hf c1
    refine lv_iconst (v := -1) hx hb dX11_shift_14 (by decide) ?_
    exact w_iret C hw hr (so2 hf).1 (so2 hf).2 dX11_shift_15
  · replace hf := ite_f hf c1
    refine lv_iload_n hx hb dX11_shift_7 rfl (lv_at hl 3 rfl) ?_
    refine w_goI hw (w_runS (rest := []) C hw (zX11_isShelf _ _ st a3) km_X11_127 kt_yX11_isShelf kz_X11 kc_X11_isShelf ok_yX11_isShelf ⟨Nat.le_of_ble_eq_true rfl, Nat.le_of_ble_eq_true rfl⟩ rfl rfl rfl rfl hl.1 (Nat.le_of_ble_eq_true rfl) dX11_shift_8 ⟨Nat.zero_le _, Nat.zero_le _⟩) (fun H locs hw => ?_)
    refine lv_if_ne (tgt := 16) hx hb dX11_shift_11 (by decide) (fun c2 => ?_) (fun c2 => ?_)
    · replace hf := ite_f hf c2
      refine lv_aload_n hx hb dX11_shift_16 rfl (lv_at hl 0 rfl) ?_
      refine w_get (T := TX11) C hw (by decide) 13 kf_X11_98 (EC_0 X _ _) rfl inA11 (by decide) rfl dX11_shift_17 ?_
      refine lv_iload_n hx hb dX11_shift_20 rfl (lv_at hl 1 rfl) ?_
      obtain ⟨h3, hf⟩ := gd_some hf
      refine w_aald (k' := (53 + 2 * a1.toNatClampNeg)) C hw (by decide) (EC_52 X _ _) rfl rfl h3 rfl dX11_shift_21 ?_
      refine lv_astore (lv' := [(6, .ref (xq X (53 + 2 * a1.toNatClampNeg))), (0, .ref (xq X 0)), (1, .int a1), (2, .int a2), (3, .int a3), (4, .int a4), (5, .int a5)]) hx hb dX11_shift_22 hl (by decide) rfl (fun ls hl => ?_)
      refine lv_aload_n hx hb dX11_shift_24 rfl (lv_at hl 1 rfl) ?_
      refine w_get (T := TX11) C hw (by decide) 13 kf_X11_98 (EC_0 X _ _) rfl inA11 (by decide) rfl dX11_shift_25 ?_
      refine lv_iload_n hx hb dX11_shift_28 rfl (lv_at hl 4 rfl) ?_
      obtain ⟨h4, hf⟩ := gd_some hf
      refine w_aald (k' := (53 + 2 * a3.toNatClampNeg)) C hw (by decide) (EC_52 X _ _) rfl rfl h4 rfl dX11_shift_29 ?_
      refine lv_astore (lv' := [(7, .ref (xq X (53 + 2 * a3.toNatClampNeg))), (6, .ref (xq X (53 + 2 * a1.toNatClampNeg))), (0, .ref (xq X 0)), (1, .int a1), (2, .int a2), (3, .int a3), (4, .int a4), (5, .int a5)]) hx hb dX11_shift_30 hl (by decide) rfl (fun ls hl => ?_)
      refine lv_aload hx hb dX11_shift_32 (lv_at hl 1 rfl) ?_
      refine w_get (T := TX7) C hw (by have := (inB_lt h3); omega) 0 kf_X11_418 (EC_sh X (inB_lt h3) _ _) rfl inA7 (by decide) rfl dX11_shift_34 ?_
      refine lv_if_eq (tgt := 48) hx hb dX11_shift_37 (by decide) (fun c5 => ?_) (fun c5 => ?_)
      · replace hf := ite_t hf c5
        refine lv_bipush (v := -11) hx hb dX11_shift_48 (by decide) ?_
        exact w_iret C hw hr (so2 hf).1 (so2 hf).2 dX11_shift_50
      · replace hf := ite_f hf c5
        refine lv_aload hx hb dX11_shift_40 (lv_at hl 0 rfl) ?_
        refine w_get (T := TX7) C hw (by have := (inB_lt h4); omega) 0 kf_X11_418 (EC_sh X (inB_lt h4) _ _) rfl inA7 (by decide) rfl dX11_shift_42 ?_
        refine lv_if_ne (tgt := 51) hx hb dX11_shift_45 (by decide) (fun c6 => ?_) (fun c6 => ?_)
        · replace hf := ite_f hf c6
          refine lv_aload hx hb dX11_shift_51 (lv_at hl 1 rfl) ?_
          refine w_get (T := TX7) C hw (by have := (inB_lt h3); omega) 0 kf_X11_418 (EC_sh X (inB_lt h3) _ _) rfl inA7 (by decide) rfl dX11_shift_53 ?_
          refine lv_iconst (v := 2) hx hb dX11_shift_56 (by decide) ?_
          refine lv_icmp_ne (tgt := 82) hx hb dX11_shift_57 (by decide) (fun c7 => ?_) (fun c7 => ?_)
          · replace hf := ite_f hf c7
            refine lv_bipush (v := -12) hx hb dX11_shift_82 (by decide) ?_
            exact w_iret C hw hr (so2 hf).1 (so2 hf).2 dX11_shift_84
          · replace hf := ite_t hf c7
            refine lv_aload hx hb dX11_shift_60 (lv_at hl 0 rfl) ?_
            refine w_get (T := TX7) C hw (by have := (inB_lt h4); omega) 0 kf_X11_418 (EC_sh X (inB_lt h4) _ _) rfl inA7 (by decide) rfl dX11_shift_62 ?_
            refine lv_iconst (v := 2) hx hb dX11_shift_65 (by decide) ?_
            refine lv_icmp_ne (tgt := 82) hx hb dX11_shift_66 (by decide) (fun c8 => ?_) (fun c8 => ?_)
            · replace hf := ite_f hf c8
              refine lv_bipush (v := -12) hx hb dX11_shift_82 (by decide) ?_
              exact w_iret C hw hr (so2 hf).1 (so2 hf).2 dX11_shift_84
            · replace hf := ite_t hf c8
              refine lv_aload hx hb dX11_shift_69 (lv_at hl 1 rfl) ?_
              refine w_get (T := TX7) C hw (by have := (inB_lt h3); omega) 2 kf_X11_421 (EC_sh X (inB_lt h3) _ _) rfl inA7 (by decide) rfl dX11_shift_71 ?_
              refine lv_aload hx hb dX11_shift_74 (lv_at hl 0 rfl) ?_
              refine w_get (T := TX7) C hw (by have := (inB_lt h4); omega) 2 kf_X11_421 (EC_sh X (inB_lt h4) _ _) rfl inA7 (by decide) rfl dX11_shift_76 ?_
              refine lv_icmp_eq (tgt := 85) hx hb dX11_shift_79 (by decide) (fun c9 => ?_) (fun c9 => ?_)
              · replace hf := ite_t hf c9
                refine lv_aload hx hb dX11_shift_85 (lv_at hl 1 rfl) ?_
                refine lv_iload_n hx hb dX11_shift_87 rfl (lv_at hl 4 rfl) ?_
                refine lv_iload hx hb dX11_shift_88 (lv_at hl 7 rfl) ?_
                refine w_goI hw (w_runV (rest := []) C hw (zX7_hasPlaces _ _ st a1.toNatClampNeg a2 a5 (inB_lt h3)) (by have := (inB_lt h3); omega) (EC_sh X (inB_lt h3) _ _) rfl km_X11_424 ki_yX7_hasPlaces kv_X7_hasPlaces kz_X7 kc_X7_hasPlaces rfl ok_yX7_hasPlaces ⟨Nat.le_of_ble_eq_true rfl, Nat.le_of_ble_eq_true rfl⟩ rfl rfl rfl rfl hl.1 (Nat.le_of_ble_eq_true rfl) dX11_shift_90 ⟨Nat.zero_le _, Nat.zero_le _⟩) (fun H locs hw => ?_)
                refine lv_if_eq (tgt := 108) hx hb dX11_shift_93 (by decide) (fun c10 => ?_) (fun c10 => ?_)
                · replace hf := ite_t hf c10
                  refine lv_bipush (v := -13) hx hb dX11_shift_108 (by decide) ?_
                  exact w_iret C hw hr (so2 hf).1 (so2 hf).2 dX11_shift_110
                · replace hf := ite_f hf c10
                  refine lv_aload hx hb dX11_shift_96 (lv_at hl 0 rfl) ?_
                  refine lv_iload hx hb dX11_shift_98 (lv_at hl 6 rfl) ?_
                  refine lv_iload hx hb dX11_shift_100 (lv_at hl 7 rfl) ?_
                  refine w_goI hw (w_runV (rest := []) C hw (zX7_hasPlaces _ _ st a3.toNatClampNeg a4 a5 (inB_lt h4)) (by have := (inB_lt h4); omega) (EC_sh X (inB_lt h4) _ _) rfl km_X11_424 ki_yX7_hasPlaces kv_X7_hasPlaces kz_X7 kc_X7_hasPlaces rfl ok_yX7_hasPlaces ⟨Nat.le_of_ble_eq_true rfl, Nat.le_of_ble_eq_true rfl⟩ rfl rfl rfl rfl hl.1 (Nat.le_of_ble_eq_true rfl) dX11_shift_102 ⟨Nat.zero_le _, Nat.zero_le _⟩) (fun H locs hw => ?_)
                  refine lv_if_ne (tgt := 111) hx hb dX11_shift_105 (by decide) (fun c11 => ?_) (fun c11 => ?_)
                  · replace hf := ite_f hf c11
                    refine lv_aload hx hb dX11_shift_111 (lv_at hl 1 rfl) ?_
                    refine w_get (T := TX7) C hw (by have := (inB_lt h3); omega) 4 kf_X11_141 (EC_sh X (inB_lt h3) _ _) rfl inA7 (by decide) rfl dX11_shift_113 ?_
                    refine lv_iload_n hx hb dX11_shift_116 rfl (lv_at hl 4 rfl) ?_
                    refine lv_aload hx hb dX11_shift_117 (lv_at hl 0 rfl) ?_
                    refine w_get (T := TX7) C hw (by have := (inB_lt h4); omega) 4 kf_X11_141 (EC_sh X (inB_lt h4) _ _) rfl inA7 (by decide) rfl dX11_shift_119 ?_
                    refine lv_iload hx hb dX11_shift_122 (lv_at hl 6 rfl) ?_
                    refine lv_iload hx hb dX11_shift_124 (lv_at hl 7 rfl) ?_
                    obtain ⟨h12, hf⟩ := gd_some hf
                    obtain ⟨st13, es14⟩ : ∃ z : St, z = sLs st (54 + 2 * a3.toNatClampNeg) (va_cpy (gL st (54 + 2 * a1.toNatClampNeg)) (gL st (54 + 2 * a3.toNatClampNeg)) a2.toNatClampNeg a4.toNatClampNeg a5.toNatClampNeg) := ⟨_, rfl⟩
                    replace hf := bnd_nm hf es14
                    refine w_cpyl C hw hl.1 km_X11_357 (by have := (inB_lt h3); omega) (by have := (inB_lt h4); omega) (EC_el X (inB_lt h3) _ _) (fun g9 => EC_el X (inB_lt h4) _ g9) h12 (Nat.le_of_ble_eq_true rfl) (Nat.le_of_ble_eq_true rfl) dX11_shift_126 (fun H locs hw => ?_)
                    rw [← es14] at hw
                    refine lv_iload hx hb dX11_shift_129 (lv_at hl 7 rfl) ?_
                    exact w_iret C hw hr (so2 hf).1 (so2 hf).2 dX11_shift_131
                  · replace hf := ite_t hf c11
                    refine lv_bipush (v := -13) hx hb dX11_shift_108 (by decide) ?_
                    exact w_iret C hw hr (so2 hf).1 (so2 hf).2 dX11_shift_110
              · replace hf := ite_f hf c9
                refine lv_bipush (v := -12) hx hb dX11_shift_82 (by decide) ?_
                exact w_iret C hw hr (so2 hf).1 (so2 hf).2 dX11_shift_84
        · replace hf := ite_t hf c6
          refine lv_bipush (v := -11) hx hb dX11_shift_48 (by decide) ?_
          exact w_iret C hw hr (so2 hf).1 (so2 hf).2 dX11_shift_50
    · replace hf := ite_t hf c2
      refine lv_iconst (v := -1) hx hb dX11_shift_14 (by decide) ?_
      exact w_iret C hw hr (so2 hf).1 (so2 hf).2 dX11_shift_15
theorem dX11_taken_0 : decode cX11_taken 0 = .ok (.iload_n 1, 1) := by decide +kernel
theorem dX11_taken_1 : decode cX11_taken 1 = .ok (.invokestatic 127, 3) := by decide +kernel
theorem dX11_taken_4 : decode cX11_taken 4 = .ok (.ifCond .eq 10, 3) := by decide +kernel
theorem dX11_taken_7 : decode cX11_taken 7 = .ok (.iload_n 2, 1) := by decide +kernel
theorem dX11_taken_8 : decode cX11_taken 8 = .ok (.invokestatic 376, 3) := by decide +kernel
theorem dX11_taken_11 : decode cX11_taken 11 = .ok (.ifCond .ne 5, 3) := by decide +kernel
theorem dX11_taken_14 : decode cX11_taken 14 = .ok (.iconst (-1), 1) := by decide +kernel
theorem dX11_taken_15 : decode cX11_taken 15 = .ok (.ireturn, 1) := by decide +kernel
theorem dX11_taken_16 : decode cX11_taken 16 = .ok (.aload_n 0, 1) := by decide +kernel
theorem dX11_taken_17 : decode cX11_taken 17 = .ok (.getfield 98, 3) := by decide +kernel
theorem dX11_taken_20 : decode cX11_taken 20 = .ok (.iload_n 1, 1) := by decide +kernel
theorem dX11_taken_21 : decode cX11_taken 21 = .ok (.aaload, 1) := by decide +kernel
theorem dX11_taken_22 : decode cX11_taken 22 = .ok (.astore_n 3, 1) := by decide +kernel
theorem dX11_taken_23 : decode cX11_taken 23 = .ok (.aload_n 3, 1) := by decide +kernel
theorem dX11_taken_24 : decode cX11_taken 24 = .ok (.getfield 418, 3) := by decide +kernel
theorem dX11_taken_27 : decode cX11_taken 27 = .ok (.ifCond .ne 6, 3) := by decide +kernel
theorem dX11_taken_30 : decode cX11_taken 30 = .ok (.bipush (-11), 2) := by decide +kernel
theorem dX11_taken_32 : decode cX11_taken 32 = .ok (.ireturn, 1) := by decide +kernel
theorem dX11_taken_33 : decode cX11_taken 33 = .ok (.aload_n 3, 1) := by decide +kernel
theorem dX11_taken_34 : decode cX11_taken 34 = .ok (.getfield 418, 3) := by decide +kernel
theorem dX11_taken_37 : decode cX11_taken 37 = .ok (.iconst 1, 1) := by decide +kernel
theorem dX11_taken_38 : decode cX11_taken 38 = .ok (.if_icmp .ne 14, 3) := by decide +kernel
theorem dX11_taken_41 : decode cX11_taken 41 = .ok (.aload_n 0, 1) := by decide +kernel
theorem dX11_taken_42 : decode cX11_taken 42 = .ok (.aload_n 3, 1) := by decide +kernel
theorem dX11_taken_43 : decode cX11_taken 43 = .ok (.getfield 427, 3) := by decide +kernel
theorem dX11_taken_46 : decode cX11_taken 46 = .ok (.invokevirtual 385, 3) := by decide +kernel
theorem dX11_taken_49 : decode cX11_taken 49 = .ok (.ifCond .ne 6, 3) := by decide +kernel
theorem dX11_taken_52 : decode cX11_taken 52 = .ok (.bipush (-12), 2) := by decide +kernel
theorem dX11_taken_54 : decode cX11_taken 54 = .ok (.ireturn, 1) := by decide +kernel
theorem dX11_taken_55 : decode cX11_taken 55 = .ok (.aload_n 0, 1) := by decide +kernel
theorem dX11_taken_56 : decode cX11_taken 56 = .ok (.getfield 92, 3) := by decide +kernel
theorem dX11_taken_59 : decode cX11_taken 59 = .ok (.getfield 430, 3) := by decide +kernel
theorem dX11_taken_62 : decode cX11_taken 62 = .ok (.aload_n 3, 1) := by decide +kernel
theorem dX11_taken_63 : decode cX11_taken 63 = .ok (.getfield 427, 3) := by decide +kernel
theorem dX11_taken_66 : decode cX11_taken 66 = .ok (.iaload, 1) := by decide +kernel
theorem dX11_taken_67 : decode cX11_taken 67 = .ok (.istore 4, 2) := by decide +kernel
theorem dX11_taken_69 : decode cX11_taken 69 = .ok (.aload_n 0, 1) := by decide +kernel
theorem dX11_taken_70 : decode cX11_taken 70 = .ok (.getfield 92, 3) := by decide +kernel
theorem dX11_taken_73 : decode cX11_taken 73 = .ok (.iload 4, 2) := by decide +kernel
theorem dX11_taken_75 : decode cX11_taken 75 = .ok (.iload_n 2, 1) := by decide +kernel
theorem dX11_taken_76 : decode cX11_taken 76 = .ok (.invokevirtual 433, 3) := by decide +kernel
theorem dX11_taken_79 : decode cX11_taken 79 = .ok (.ifCond .eq 8, 3) := by decide +kernel
theorem dX11_taken_82 : decode cX11_taken 82 = .ok (.iload 4, 2) := by decide +kernel
theorem dX11_taken_84 : decode cX11_taken 84 = .ok (.goto 5, 3) := by decide +kernel
theorem dX11_taken_87 : decode cX11_taken 87 = .ok (.bipush (-12), 2) := by decide +kernel
theorem dX11_taken_89 : decode cX11_taken 89 = .ok (.ireturn, 1) := by decide +kernel
theorem ok_yX11_taken : yOk yX11_taken 2 := ⟨by decide +kernel, by decide +kernel, by decide +kernel⟩
def fX11_taken (n : Nat) (st : St) (a1 : Int32) (a2 : Int32) : Option (Int32) := if bI (fX11_isShelf a1) = 0 then (some (-1 : Int32)) else (if bI (fX11_isKind a2) = 0 then (some (-1 : Int32)) else (gd (inB a1 6) (if gI st (53 + 2 * a1.toNatClampNeg) 0 = 0 then (some (-11 : Int32)) else (if gI st (53 + 2 * a1.toNatClampNeg) 0 = (1 : Int32) then (if bI (fX11_isBody st (gI st (53 + 2 * a1.toNatClampNeg) 1)) = 0 then (some (-12 : Int32)) else (gd (inB (gI st (53 + 2 * a1.toNatClampNeg) 1) 50) (bnd (gI st 50 (gI st (53 + 2 * a1.toNatClampNeg) 1).toNatClampNeg) (fun x8 => (fX0_isUnder n st x8 a2).bind (fun r10 => if bI r10 = 0 then (some (-12 : Int32)) else (some x8)))))) else (some (-12 : Int32))))))
set_option maxHeartbeats 4000000 in
theorem zX11_taken (l : Launch) (X : WX) (n : Nat) (st : St) (a1 : Int32) (a2 : Int32) (R : Int32) (hf : fX11_taken n st a1 a2 = some R) : CtI l yX11_taken cX11_taken 5 .int ({ frames := 2, cells := 0, slots := 0, locals := 43 }) EC 65 X [.ref (xq X 0), .int a1, .int a2] st R st := by
  refine ct_in (own := RX11) (by decide +kernel) rfl (Nat.le_of_ble_eq_true rfl) (fun p e s m below meth c C hr hw ls hl => ?_)
  obtain ⟨hx, hb, hml, hown, hts⟩ := id C.1
  have hl : lv_has ls 5 [(0, .ref (xq X 0)), (1, .int a1), (2, .int a2)] := hl
  unfold fX11_taken at hf
  refine lv_iload_n hx hb dX11_taken_0 rfl (lv_at hl 1 rfl) ?_
  refine w_goI hw (w_runS (rest := []) C hw (zX11_isShelf _ _ st a1) km_X11_127 kt_yX11_isShelf kz_X11 kc_X11_isShelf ok_yX11_isShelf ⟨Nat.le_of_ble_eq_true rfl, Nat.le_of_ble_eq_true rfl⟩ rfl rfl rfl rfl hl.1 (Nat.le_of_ble_eq_true rfl) dX11_taken_1 ⟨Nat.zero_le _, Nat.zero_le _⟩) (fun H locs hw => ?_)
  refine lv_if_eq (tgt := 14) hx hb dX11_taken_4 (by decide) (fun c1 => ?_) (fun c1 => ?_)
  · replace hf := ite_t hf c1
    refine lv_iconst (v := -1) hx hb dX11_taken_14 (by decide) ?_
    exact w_iret C hw hr (Option.some.inj hf) rfl dX11_taken_15
  · replace hf := ite_f hf c1
    refine lv_iload_n hx hb dX11_taken_7 rfl (lv_at hl 2 rfl) ?_
    refine w_goI hw (w_runS (rest := []) C hw (zX11_isKind _ _ st a2) km_X11_376 kt_yX11_isKind kz_X11 kc_X11_isKind ok_yX11_isKind ⟨Nat.le_of_ble_eq_true rfl, Nat.le_of_ble_eq_true rfl⟩ rfl rfl rfl rfl hl.1 (Nat.le_of_ble_eq_true rfl) dX11_taken_8 ⟨Nat.zero_le _, Nat.zero_le _⟩) (fun H locs hw => ?_)
    refine lv_if_ne (tgt := 16) hx hb dX11_taken_11 (by decide) (fun c2 => ?_) (fun c2 => ?_)
    · replace hf := ite_f hf c2
      refine lv_aload_n hx hb dX11_taken_16 rfl (lv_at hl 0 rfl) ?_
      refine w_get (T := TX11) C hw (by decide) 13 kf_X11_98 (EC_0 X _ _) rfl inA11 (by decide) rfl dX11_taken_17 ?_
      refine lv_iload_n hx hb dX11_taken_20 rfl (lv_at hl 1 rfl) ?_
      obtain ⟨h3, hf⟩ := gd_some hf
      refine w_aald (k' := (53 + 2 * a1.toNatClampNeg)) C hw (by decide) (EC_52 X _ _) rfl rfl h3 rfl dX11_taken_21 ?_
      refine lv_astore_n (lv' := [(3, .ref (xq X (53 + 2 * a1.toNatClampNeg))), (0, .ref (xq X 0)), (1, .int a1), (2, .int a2)]) hx hb dX11_taken_22 rfl hl (by decide) rfl (fun ls hl => ?_)
      refine lv_aload_n hx hb dX11_taken_23 rfl (lv_at hl 0 rfl) ?_
      refine w_get (T := TX7) C hw (by have := (inB_lt h3); omega) 0 kf_X11_418 (EC_sh X (inB_lt h3) _ _) rfl inA7 (by decide) rfl dX11_taken_24 ?_
      refine lv_if_ne (tgt := 33) hx hb dX11_taken_27 (by decide) (fun c4 => ?_) (fun c4 => ?_)
      · replace hf := ite_f hf c4
        refine lv_aload_n hx hb dX11_taken_33 rfl (lv_at hl 0 rfl) ?_
        refine w_get (T := TX7) C hw (by have := (inB_lt h3); omega) 0 kf_X11_418 (EC_sh X (inB_lt h3) _ _) rfl inA7 (by decide) rfl dX11_taken_34 ?_
        refine lv_iconst (v := 1) hx hb dX11_taken_37 (by decide) ?_
        refine lv_icmp_ne (tgt := 52) hx hb dX11_taken_38 (by decide) (fun c5 => ?_) (fun c5 => ?_)
        · replace hf := ite_f hf c5
          refine lv_bipush (v := -12) hx hb dX11_taken_52 (by decide) ?_
          exact w_iret C hw hr (Option.some.inj hf) rfl dX11_taken_54
        · replace hf := ite_t hf c5
          refine lv_aload_n hx hb dX11_taken_41 rfl (lv_at hl 1 rfl) ?_
          refine lv_aload_n hx hb dX11_taken_42 rfl (lv_at hl 0 rfl) ?_
          refine w_get (T := TX7) C hw (by have := (inB_lt h3); omega) 1 kf_X11_427 (EC_sh X (inB_lt h3) _ _) rfl inA7 (by decide) rfl dX11_taken_43 ?_
          refine w_goI hw (w_runV (rest := []) C hw (zX11_isBody _ _ st (gI st (53 + 2 * a1.toNatClampNeg) 1)) (by decide) (EC_0 X _ _) rfl km_X11_385 ki_yX11_isBody kv_X11_isBody kz_X11 kc_X11_isBody rfl ok_yX11_isBody ⟨Nat.le_of_ble_eq_true rfl, Nat.le_of_ble_eq_true rfl⟩ rfl rfl rfl rfl hl.1 (Nat.le_of_ble_eq_true rfl) dX11_taken_46 ⟨Nat.zero_le _, Nat.zero_le _⟩) (fun H locs hw => ?_)
          refine lv_if_ne (tgt := 55) hx hb dX11_taken_49 (by decide) (fun c6 => ?_) (fun c6 => ?_)
          · replace hf := ite_f hf c6
            refine lv_aload_n hx hb dX11_taken_55 rfl (lv_at hl 1 rfl) ?_
            refine w_get (T := TX11) C hw (by decide) 12 kf_X11_92 (EC_0 X _ _) rfl inA11 (by decide) rfl dX11_taken_56 ?_
            refine w_get (T := TX0) C hw (by decide) 0 kf_X11_430 (EC_49 X _ _) rfl inA0 (by decide) rfl dX11_taken_59 ?_
            refine lv_aload_n hx hb dX11_taken_62 rfl (lv_at hl 0 rfl) ?_
            refine w_get (T := TX7) C hw (by have := (inB_lt h3); omega) 1 kf_X11_427 (EC_sh X (inB_lt h3) _ _) rfl inA7 (by decide) rfl dX11_taken_63 ?_
            obtain ⟨h7, hf⟩ := gd_some hf
            refine w_iald C hw (by decide) (EC_50 X _ _) h7 rfl dX11_taken_66 ?_
            refine lv_topi (fun x8 e9 => ?_)
            replace hf := bnd_nm hf e9
            refine lv_istore (lv' := [(4, .int x8), (3, .ref (xq X (53 + 2 * a1.toNatClampNeg))), (0, .ref (xq X 0)), (1, .int a1), (2, .int a2)]) hx hb dX11_taken_67 hl (by decide) rfl (fun ls hl => ?_)
            refine lv_aload_n hx hb dX11_taken_69 rfl (lv_at hl 2 rfl) ?_
            refine w_get (T := TX11) C hw (by decide) 12 kf_X11_92 (EC_0 X _ _) rfl inA11 (by decide) rfl dX11_taken_70 ?_
            refine lv_iload hx hb dX11_taken_73 (lv_at hl 0 rfl) ?_
            refine lv_iload_n hx hb dX11_taken_75 rfl (lv_at hl 4 rfl) ?_
            obtain ⟨r10, k11, hf⟩ := bd_some hf
            refine w_goI hw (w_runV (rest := []) C hw (zX0_isUnder _ _ n st x8 a2 r10 k11) (by decide) (EC_49 X _ _) rfl km_X11_433 ki_yX0_isUnder kv_X0_isUnder kz_X0 kc_X0_isUnder rfl ok_yX0_isUnder ⟨Nat.le_of_ble_eq_true rfl, Nat.le_of_ble_eq_true rfl⟩ rfl rfl rfl rfl hl.1 (Nat.le_of_ble_eq_true rfl) dX11_taken_76 ⟨Nat.zero_le _, Nat.zero_le _⟩) (fun H locs hw => ?_)
            refine lv_if_eq (tgt := 87) hx hb dX11_taken_79 (by decide) (fun c12 => ?_) (fun c12 => ?_)
            · replace hf := ite_t hf c12
              refine lv_bipush (v := -12) hx hb dX11_taken_87 (by decide) ?_
              exact w_iret C hw hr (Option.some.inj hf) rfl dX11_taken_89
            · replace hf := ite_f hf c12
              refine lv_iload hx hb dX11_taken_82 (lv_at hl 0 rfl) ?_
              refine lv_goto (tgt := 89) hx hb dX11_taken_84 (by decide) ?_
              exact w_iret C hw hr (Option.some.inj hf) rfl dX11_taken_89
          · replace hf := ite_t hf c6
            refine lv_bipush (v := -12) hx hb dX11_taken_52 (by decide) ?_
            exact w_iret C hw hr (Option.some.inj hf) rfl dX11_taken_54
      · replace hf := ite_t hf c4
        refine lv_bipush (v := -11) hx hb dX11_taken_30 (by decide) ?_
        exact w_iret C hw hr (Option.some.inj hf) rfl dX11_taken_32
    · replace hf := ite_t hf c2
      refine lv_iconst (v := -1) hx hb dX11_taken_14 (by decide) ?_
      exact w_iret C hw hr (Option.some.inj hf) rfl dX11_taken_15
theorem dX11_count_0 : decode cX11_count 0 = .ok (.iload_n 1, 1) := by decide +kernel
theorem dX11_count_1 : decode cX11_count 1 = .ok (.tableswitch 99 0 6 #[43, 51, 59, 67, 75, 83, 91], 43) := by decide +kernel
theorem dX11_count_44 : decode cX11_count 44 = .ok (.aload_n 0, 1) := by decide +kernel
theorem dX11_count_45 : decode cX11_count 45 = .ok (.getfield 10, 3) := by decide +kernel
theorem dX11_count_48 : decode cX11_count 48 = .ok (.getfield 110, 3) := by decide +kernel
theorem dX11_count_51 : decode cX11_count 51 = .ok (.ireturn, 1) := by decide +kernel
theorem dX11_count_52 : decode cX11_count 52 = .ok (.aload_n 0, 1) := by decide +kernel
theorem dX11_count_53 : decode cX11_count 53 = .ok (.getfield 10, 3) := by decide +kernel
theorem dX11_count_56 : decode cX11_count 56 = .ok (.getfield 121, 3) := by decide +kernel
theorem dX11_count_59 : decode cX11_count 59 = .ok (.ireturn, 1) := by decide +kernel
theorem dX11_count_60 : decode cX11_count 60 = .ok (.aload_n 0, 1) := by decide +kernel
theorem dX11_count_61 : decode cX11_count 61 = .ok (.getfield 10, 3) := by decide +kernel
theorem dX11_count_64 : decode cX11_count 64 = .ok (.getfield 154, 3) := by decide +kernel
theorem dX11_count_67 : decode cX11_count 67 = .ok (.ireturn, 1) := by decide +kernel
theorem dX11_count_68 : decode cX11_count 68 = .ok (.aload_n 0, 1) := by decide +kernel
theorem dX11_count_69 : decode cX11_count 69 = .ok (.getfield 26, 3) := by decide +kernel
theorem dX11_count_72 : decode cX11_count 72 = .ok (.getfield 185, 3) := by decide +kernel
theorem dX11_count_75 : decode cX11_count 75 = .ok (.ireturn, 1) := by decide +kernel
theorem dX11_count_76 : decode cX11_count 76 = .ok (.aload_n 0, 1) := by decide +kernel
theorem dX11_count_77 : decode cX11_count 77 = .ok (.getfield 85, 3) := by decide +kernel
theorem dX11_count_80 : decode cX11_count 80 = .ok (.getfield 363, 3) := by decide +kernel
theorem dX11_count_83 : decode cX11_count 83 = .ok (.ireturn, 1) := by decide +kernel
theorem dX11_count_84 : decode cX11_count 84 = .ok (.aload_n 0, 1) := by decide +kernel
theorem dX11_count_85 : decode cX11_count 85 = .ok (.getfield 92, 3) := by decide +kernel
theorem dX11_count_88 : decode cX11_count 88 = .ok (.getfield 379, 3) := by decide +kernel
theorem dX11_count_91 : decode cX11_count 91 = .ok (.ireturn, 1) := by decide +kernel
theorem dX11_count_92 : decode cX11_count 92 = .ok (.aload_n 0, 1) := by decide +kernel
theorem dX11_count_93 : decode cX11_count 93 = .ok (.getfield 92, 3) := by decide +kernel
theorem dX11_count_96 : decode cX11_count 96 = .ok (.getfield 382, 3) := by decide +kernel
theorem dX11_count_99 : decode cX11_count 99 = .ok (.ireturn, 1) := by decide +kernel
theorem dX11_count_100 : decode cX11_count 100 = .ok (.iconst (-1), 1) := by decide +kernel
theorem dX11_count_101 : decode cX11_count 101 = .ok (.ireturn, 1) := by decide +kernel
theorem ok_yX11_count : yOk yX11_count 1 := ⟨by decide +kernel, by decide +kernel, by decide +kernel⟩
def fX11_count (st : St) (a1 : Int32) : Int32 := if a1 = 0 then ((gI st 1 1)) else (if a1 = 1 then ((gI st 1 2)) else (if a1 = 2 then ((gI st 1 3)) else (if a1 = 3 then ((gI st 21 1)) else (if a1 = 4 then ((gI st 44 0)) else (if a1 = 5 then ((gI st 49 1)) else (if a1 = 6 then ((gI st 49 3)) else ((-1 : Int32))))))))
set_option maxHeartbeats 4000000 in
theorem zX11_count (l : Launch) (X : WX) (st : St) (a1 : Int32) : CtI l yX11_count cX11_count 2 .int ({ frames := 0, cells := 0, slots := 0, locals := 0 }) EC 65 X [.ref (xq X 0), .int a1] st (fX11_count st a1) st := by
  generalize hf : fX11_count st a1 = R
  refine ct_in (own := RX11) (by decide +kernel) rfl (Nat.le_of_ble_eq_true rfl) (fun p e s m below meth c C hr hw ls hl => ?_)
  obtain ⟨hx, hb, hml, hown, hts⟩ := id C.1
  have hl : lv_has ls 2 [(0, .ref (xq X 0)), (1, .int a1)] := hl
  unfold fX11_count at hf
  refine lv_iload_n hx hb dX11_count_0 rfl (lv_at hl 1 rfl) ?_
  by_cases c1 : a1 = 0
  · replace hf := ite_t hf c1
    refine lv_tableIn (tgt := 44) hx hb dX11_count_1 (by rw [c1]; decide) (by rw [c1]; decide) (by rw [c1]; rfl) (by decide) ?_
    refine lv_aload_n hx hb dX11_count_44 rfl (lv_at hl 0 rfl) ?_
    refine w_get (T := TX11) C hw (by decide) 0 kf_X11_10 (EC_0 X _ _) rfl inA11 (by decide) rfl dX11_count_45 ?_
    refine w_get (T := TX3) C hw (by decide) 1 kf_X11_110 (EC_1 X _ _) rfl inA3 (by decide) rfl dX11_count_48 ?_
    exact w_iret C hw hr hf rfl dX11_count_51
  · replace hf := ite_f hf c1
    by_cases c2 : a1 = 1
    · replace hf := ite_t hf c2
      refine lv_tableIn (tgt := 52) hx hb dX11_count_1 (by rw [c2]; decide) (by rw [c2]; decide) (by rw [c2]; rfl) (by decide) ?_
      refine lv_aload_n hx hb dX11_count_52 rfl (lv_at hl 0 rfl) ?_
      refine w_get (T := TX11) C hw (by decide) 0 kf_X11_10 (EC_0 X _ _) rfl inA11 (by decide) rfl dX11_count_53 ?_
      refine w_get (T := TX3) C hw (by decide) 2 kf_X11_121 (EC_1 X _ _) rfl inA3 (by decide) rfl dX11_count_56 ?_
      exact w_iret C hw hr hf rfl dX11_count_59
    · replace hf := ite_f hf c2
      by_cases c3 : a1 = 2
      · replace hf := ite_t hf c3
        refine lv_tableIn (tgt := 60) hx hb dX11_count_1 (by rw [c3]; decide) (by rw [c3]; decide) (by rw [c3]; rfl) (by decide) ?_
        refine lv_aload_n hx hb dX11_count_60 rfl (lv_at hl 0 rfl) ?_
        refine w_get (T := TX11) C hw (by decide) 0 kf_X11_10 (EC_0 X _ _) rfl inA11 (by decide) rfl dX11_count_61 ?_
        refine w_get (T := TX3) C hw (by decide) 3 kf_X11_154 (EC_1 X _ _) rfl inA3 (by decide) rfl dX11_count_64 ?_
        exact w_iret C hw hr hf rfl dX11_count_67
      · replace hf := ite_f hf c3
        by_cases c4 : a1 = 3
        · replace hf := ite_t hf c4
          refine lv_tableIn (tgt := 68) hx hb dX11_count_1 (by rw [c4]; decide) (by rw [c4]; decide) (by rw [c4]; rfl) (by decide) ?_
          refine lv_aload_n hx hb dX11_count_68 rfl (lv_at hl 0 rfl) ?_
          refine w_get (T := TX11) C hw (by decide) 2 kf_X11_26 (EC_0 X _ _) rfl inA11 (by decide) rfl dX11_count_69 ?_
          refine w_get (T := TX5) C hw (by decide) 1 kf_X11_185 (EC_21 X _ _) rfl inA5 (by decide) rfl dX11_count_72 ?_
          exact w_iret C hw hr hf rfl dX11_count_75
        · replace hf := ite_f hf c4
          by_cases c5 : a1 = 4
          · replace hf := ite_t hf c5
            refine lv_tableIn (tgt := 76) hx hb dX11_count_1 (by rw [c5]; decide) (by rw [c5]; decide) (by rw [c5]; rfl) (by decide) ?_
            refine lv_aload_n hx hb dX11_count_76 rfl (lv_at hl 0 rfl) ?_
            refine w_get (T := TX11) C hw (by decide) 11 kf_X11_85 (EC_0 X _ _) rfl inA11 (by decide) rfl dX11_count_77 ?_
            refine w_get (T := TX1) C hw (by decide) 0 kf_X11_363 (EC_44 X _ _) rfl inA1 (by decide) rfl dX11_count_80 ?_
            exact w_iret C hw hr hf rfl dX11_count_83
          · replace hf := ite_f hf c5
            by_cases c6 : a1 = 5
            · replace hf := ite_t hf c6
              refine lv_tableIn (tgt := 84) hx hb dX11_count_1 (by rw [c6]; decide) (by rw [c6]; decide) (by rw [c6]; rfl) (by decide) ?_
              refine lv_aload_n hx hb dX11_count_84 rfl (lv_at hl 0 rfl) ?_
              refine w_get (T := TX11) C hw (by decide) 12 kf_X11_92 (EC_0 X _ _) rfl inA11 (by decide) rfl dX11_count_85 ?_
              refine w_get (T := TX0) C hw (by decide) 1 kf_X11_379 (EC_49 X _ _) rfl inA0 (by decide) rfl dX11_count_88 ?_
              exact w_iret C hw hr hf rfl dX11_count_91
            · replace hf := ite_f hf c6
              by_cases c7 : a1 = 6
              · replace hf := ite_t hf c7
                refine lv_tableIn (tgt := 92) hx hb dX11_count_1 (by rw [c7]; decide) (by rw [c7]; decide) (by rw [c7]; rfl) (by decide) ?_
                refine lv_aload_n hx hb dX11_count_92 rfl (lv_at hl 0 rfl) ?_
                refine w_get (T := TX11) C hw (by decide) 12 kf_X11_92 (EC_0 X _ _) rfl inA11 (by decide) rfl dX11_count_93 ?_
                refine w_get (T := TX0) C hw (by decide) 3 kf_X11_382 (EC_49 X _ _) rfl inA0 (by decide) rfl dX11_count_96 ?_
                exact w_iret C hw hr hf rfl dX11_count_99
              · replace hf := ite_f hf c7
                refine lv_tableOut (tgt := 100) hx hb dX11_count_1 (by have q0 := ne_toInt (a := 0) c1 (by decide); have q1 := ne_toInt (a := 1) c2 (by decide); have q2 := ne_toInt (a := 2) c3 (by decide); have q3 := ne_toInt (a := 3) c4 (by decide); have q4 := ne_toInt (a := 4) c5 (by decide); have q5 := ne_toInt (a := 5) c6 (by decide); have q6 := ne_toInt (a := 6) c7 (by decide); omega) (by decide) ?_
                refine lv_iconst (v := -1) hx hb dX11_count_100 (by decide) ?_
                exact w_iret C hw hr hf rfl dX11_count_101
