theorem dX12_bestCry_0 : decode cX12_bestCry 0 = .ok (.aload_n 0, 1) := by decide +kernel
theorem dX12_bestCry_1 : decode cX12_bestCry 1 = .ok (.iload_n 1, 1) := by decide +kernel
theorem dX12_bestCry_2 : decode cX12_bestCry 2 = .ok (.invokevirtual 200, 3) := by decide +kernel
theorem dX12_bestCry_5 : decode cX12_bestCry 5 = .ok (.ifCond .eq 12, 3) := by decide +kernel
theorem dX12_bestCry_8 : decode cX12_bestCry 8 = .ok (.iload_n 2, 1) := by decide +kernel
theorem dX12_bestCry_9 : decode cX12_bestCry 9 = .ok (.iconst 0, 1) := by decide +kernel
theorem dX12_bestCry_10 : decode cX12_bestCry 10 = .ok (.iconst 1, 1) := by decide +kernel
theorem dX12_bestCry_11 : decode cX12_bestCry 11 = .ok (.invokestatic 147, 3) := by decide +kernel
theorem dX12_bestCry_14 : decode cX12_bestCry 14 = .ok (.ifCond .ne 5, 3) := by decide +kernel
theorem dX12_bestCry_17 : decode cX12_bestCry 17 = .ok (.iconst (-1), 1) := by decide +kernel
theorem dX12_bestCry_18 : decode cX12_bestCry 18 = .ok (.ireturn, 1) := by decide +kernel
theorem dX12_bestCry_19 : decode cX12_bestCry 19 = .ok (.aload_n 0, 1) := by decide +kernel
theorem dX12_bestCry_20 : decode cX12_bestCry 20 = .ok (.getfield 43, 3) := by decide +kernel
theorem dX12_bestCry_23 : decode cX12_bestCry 23 = .ok (.iload_n 1, 1) := by decide +kernel
theorem dX12_bestCry_24 : decode cX12_bestCry 24 = .ok (.iaload, 1) := by decide +kernel
theorem dX12_bestCry_25 : decode cX12_bestCry 25 = .ok (.istore_n 3, 1) := by decide +kernel
theorem dX12_bestCry_26 : decode cX12_bestCry 26 = .ok (.iconst 0, 1) := by decide +kernel
theorem dX12_bestCry_27 : decode cX12_bestCry 27 = .ok (.istore 4, 2) := by decide +kernel
theorem dX12_bestCry_29 : decode cX12_bestCry 29 = .ok (.iconst (-1), 1) := by decide +kernel
theorem dX12_bestCry_30 : decode cX12_bestCry 30 = .ok (.istore 5, 2) := by decide +kernel
theorem dX12_bestCry_32 : decode cX12_bestCry 32 = .ok (.iconst 0, 1) := by decide +kernel
theorem dX12_bestCry_33 : decode cX12_bestCry 33 = .ok (.istore 6, 2) := by decide +kernel
theorem dX12_bestCry_35 : decode cX12_bestCry 35 = .ok (.iload 6, 2) := by decide +kernel
theorem dX12_bestCry_37 : decode cX12_bestCry 37 = .ok (.sipush 999, 3) := by decide +kernel
theorem dX12_bestCry_40 : decode cX12_bestCry 40 = .ok (.if_icmp .gt 55, 3) := by decide +kernel
theorem dX12_bestCry_43 : decode cX12_bestCry 43 = .ok (.aload_n 0, 1) := by decide +kernel
theorem dX12_bestCry_44 : decode cX12_bestCry 44 = .ok (.getfield 43, 3) := by decide +kernel
theorem dX12_bestCry_47 : decode cX12_bestCry 47 = .ok (.iload_n 1, 1) := by decide +kernel
theorem dX12_bestCry_48 : decode cX12_bestCry 48 = .ok (.iload 6, 2) := by decide +kernel
theorem dX12_bestCry_50 : decode cX12_bestCry 50 = .ok (.iastore, 1) := by decide +kernel
theorem dX12_bestCry_51 : decode cX12_bestCry 51 = .ok (.aload_n 0, 1) := by decide +kernel
theorem dX12_bestCry_52 : decode cX12_bestCry 52 = .ok (.invokevirtual 315, 3) := by decide +kernel
theorem dX12_bestCry_55 : decode cX12_bestCry 55 = .ok (.aload_n 0, 1) := by decide +kernel
theorem dX12_bestCry_56 : decode cX12_bestCry 56 = .ok (.aload_n 0, 1) := by decide +kernel
theorem dX12_bestCry_57 : decode cX12_bestCry 57 = .ok (.getfield 40, 3) := by decide +kernel
theorem dX12_bestCry_60 : decode cX12_bestCry 60 = .ok (.iload_n 1, 1) := by decide +kernel
theorem dX12_bestCry_61 : decode cX12_bestCry 61 = .ok (.iaload, 1) := by decide +kernel
theorem dX12_bestCry_62 : decode cX12_bestCry 62 = .ok (.invokevirtual 324, 3) := by decide +kernel
theorem dX12_bestCry_65 : decode cX12_bestCry 65 = .ok (.iload 5, 2) := by decide +kernel
theorem dX12_bestCry_67 : decode cX12_bestCry 67 = .ok (.if_icmp .gt 6, 3) := by decide +kernel
theorem dX12_bestCry_70 : decode cX12_bestCry 70 = .ok (.goto 19, 3) := by decide +kernel
theorem dX12_bestCry_73 : decode cX12_bestCry 73 = .ok (.iload 6, 2) := by decide +kernel
theorem dX12_bestCry_75 : decode cX12_bestCry 75 = .ok (.istore 4, 2) := by decide +kernel
theorem dX12_bestCry_77 : decode cX12_bestCry 77 = .ok (.aload_n 0, 1) := by decide +kernel
theorem dX12_bestCry_78 : decode cX12_bestCry 78 = .ok (.aload_n 0, 1) := by decide +kernel
theorem dX12_bestCry_79 : decode cX12_bestCry 79 = .ok (.getfield 40, 3) := by decide +kernel
theorem dX12_bestCry_82 : decode cX12_bestCry 82 = .ok (.iload_n 1, 1) := by decide +kernel
theorem dX12_bestCry_83 : decode cX12_bestCry 83 = .ok (.iaload, 1) := by decide +kernel
theorem dX12_bestCry_84 : decode cX12_bestCry 84 = .ok (.invokevirtual 324, 3) := by decide +kernel
theorem dX12_bestCry_87 : decode cX12_bestCry 87 = .ok (.istore 5, 2) := by decide +kernel
theorem dX12_bestCry_89 : decode cX12_bestCry 89 = .ok (.iinc 6 1, 3) := by decide +kernel
theorem dX12_bestCry_92 : decode cX12_bestCry 92 = .ok (.goto (-57), 3) := by decide +kernel
theorem dX12_bestCry_95 : decode cX12_bestCry 95 = .ok (.aload_n 0, 1) := by decide +kernel
theorem dX12_bestCry_96 : decode cX12_bestCry 96 = .ok (.getfield 43, 3) := by decide +kernel
theorem dX12_bestCry_99 : decode cX12_bestCry 99 = .ok (.iload_n 1, 1) := by decide +kernel
theorem dX12_bestCry_100 : decode cX12_bestCry 100 = .ok (.iload_n 3, 1) := by decide +kernel
theorem dX12_bestCry_101 : decode cX12_bestCry 101 = .ok (.iastore, 1) := by decide +kernel
theorem dX12_bestCry_102 : decode cX12_bestCry 102 = .ok (.iload_n 2, 1) := by decide +kernel
theorem dX12_bestCry_103 : decode cX12_bestCry 103 = .ok (.ifCond .ne 8, 3) := by decide +kernel
theorem dX12_bestCry_106 : decode cX12_bestCry 106 = .ok (.iload 4, 2) := by decide +kernel
theorem dX12_bestCry_108 : decode cX12_bestCry 108 = .ok (.goto 5, 3) := by decide +kernel
theorem dX12_bestCry_111 : decode cX12_bestCry 111 = .ok (.iload 5, 2) := by decide +kernel
theorem dX12_bestCry_113 : decode cX12_bestCry 113 = .ok (.ireturn, 1) := by decide +kernel
theorem ok_yX12_bestCry : yOk yX12_bestCry 2 := ⟨by decide +kernel, by decide +kernel, by decide +kernel⟩
def fX12_bestCry_35 (n : Nat) : Nat → St → Int32 → Int32 → Int32 → Int32 → Int32 → Int32 → Option (Int32 × St)
  | 0, _, _, _, _, _, _, _ => none
  | k + 1, st, v1, v2, v3, v4, v5, v6 => if (999 : Int32) < v6 then (gd (inB v1 13) (bnd (sI st 12 v1.toNatClampNeg v3) (fun st8 => if v2 = 0 then (some (v4, st8)) else (some (v5, st8))))) else (gd (inB v1 13) (bnd (sI st 12 v1.toNatClampNeg v6) (fun st12 => (fX12_findOwed n st12).bind (fun r14 => gd (inB v1 13) ((fX12_owedAll n r14 (gI r14 11 v1.toNatClampNeg)).bind (fun r17 => if v5 < r17 then (gd (inB v1 13) ((fX12_owedAll n r14 (gI r14 11 v1.toNatClampNeg)).bind (fun r21 => bnd (v6 + (1 : Int32)) (fun x23 => fX12_bestCry_35 n k r14 v1 v2 v3 v6 r21 x23)))) else (bnd (v6 + (1 : Int32)) (fun x25 => fX12_bestCry_35 n k r14 v1 v2 v3 v4 v5 x25))))))))
set_option maxHeartbeats 4000000 in
theorem tX12_bestCry_35 {p : Program} {l : Launch} {e : Env} {s : State} {m : MethodId} {args : Array Value} {below : List Frame} {meth : Method} {c : Code} {X : WX} (C : Amb 43 X p s m args meth c cX12_bestCry 7 RX12) (hr : meth.sig.returnType = some .int) {R : Int32 × St} {n : Nat} : ∀ (k : Nat) (st : St) (v1 : Int32) (v2 : Int32) (v3 : Int32) (v4 : Int32) (v5 : Int32) (v6 : Int32) (H : Heap) (locs : List Loc) (ls : Array Slot), Wd EM 43 X s.heap st H locs → lv_has ls 7 [(0, .ref (xq X 0)), (1, .int v1), (2, .int v2), (3, .int v3), (4, .int v4), (5, .int v5), (6, .int v6)] → fX12_bestCry_35 n k st v1 v2 v3 v4 v5 v6 = some R → W p l e { frames := 7, cells := 0, slots := 0, locals := 167 } s m args below meth c H locs 0 0 (QI EM 43 X R.1 R.2 below args s) (F0 m 35 ls []) := by
  obtain ⟨hx, hb, hml, hown, hts⟩ := id C.1
  intro k
  induction k with
  | zero => intro st v1 v2 v3 v4 v5 v6 H locs ls  hw hl hf; exact absurd (show none = some R from hf) (fun z => by cases z)
  | succ k ih =>
    intro st v1 v2 v3 v4 v5 v6 H locs ls  hw hl hf
    rw [fX12_bestCry_35] at hf
    refine lv_iload hx hb dX12_bestCry_35 (lv_at hl 6 rfl) ?_
    refine lv_sipush (v := 999) hx hb dX12_bestCry_37 (by decide) ?_
    refine lv_icmp_gt (tgt := 95) hx hb dX12_bestCry_40 (by decide) (fun c6 => ?_) (fun c6 => ?_)
    · replace hf := ite_t hf c6
      refine lv_aload_n hx hb dX12_bestCry_95 rfl (lv_at hl 0 rfl) ?_
      refine w_get (T := TX12) C hw (by decide) 15 kf_X12_43 (EM_0 X _ _) rfl inA12 (by decide) rfl dX12_bestCry_96 ?_
      refine lv_iload_n hx hb dX12_bestCry_99 rfl (lv_at hl 1 rfl) ?_
      refine lv_iload_n hx hb dX12_bestCry_100 rfl (lv_at hl 3 rfl) ?_
      obtain ⟨h7, hf⟩ := gd_some hf
      obtain ⟨st8, es9⟩ : ∃ z : St, z = sI st 12 v1.toNatClampNeg v3 := ⟨_, rfl⟩
      replace hf := bnd_nm hf es9
      refine w_iast C hw (by decide) (fun f9 => EM_12 X f9 _) h7 rfl dX12_bestCry_101 (fun H locs hw => ?_)
      rw [← es9] at hw
      refine lv_iload_n hx hb dX12_bestCry_102 rfl (lv_at hl 2 rfl) ?_
      refine lv_if_ne (tgt := 111) hx hb dX12_bestCry_103 (by decide) (fun c10 => ?_) (fun c10 => ?_)
      · replace hf := ite_f hf c10
        refine lv_iload hx hb dX12_bestCry_111 (lv_at hl 5 rfl) ?_
        exact w_iret C hw hr (so2 hf).1 (so2 hf).2 dX12_bestCry_113
      · replace hf := ite_t hf c10
        refine lv_iload hx hb dX12_bestCry_106 (lv_at hl 4 rfl) ?_
        refine lv_goto (tgt := 113) hx hb dX12_bestCry_108 (by decide) ?_
        exact w_iret C hw hr (so2 hf).1 (so2 hf).2 dX12_bestCry_113
    · replace hf := ite_f hf c6
      refine lv_aload_n hx hb dX12_bestCry_43 rfl (lv_at hl 0 rfl) ?_
      refine w_get (T := TX12) C hw (by decide) 15 kf_X12_43 (EM_0 X _ _) rfl inA12 (by decide) rfl dX12_bestCry_44 ?_
      refine lv_iload_n hx hb dX12_bestCry_47 rfl (lv_at hl 1 rfl) ?_
      refine lv_iload hx hb dX12_bestCry_48 (lv_at hl 6 rfl) ?_
      obtain ⟨h11, hf⟩ := gd_some hf
      obtain ⟨st12, es13⟩ : ∃ z : St, z = sI st 12 v1.toNatClampNeg v6 := ⟨_, rfl⟩
      replace hf := bnd_nm hf es13
      refine w_iast C hw (by decide) (fun f9 => EM_12 X f9 _) h11 rfl dX12_bestCry_50 (fun H locs hw => ?_)
      rw [← es13] at hw
      refine lv_aload_n hx hb dX12_bestCry_51 rfl (lv_at hl 0 rfl) ?_
      obtain ⟨r14, k15, hf⟩ := bd_some hf
      refine w_goV hw (w_runV (rest := []) C hw (zX12_findOwed _ _ n st12 r14 k15) (by decide) (EM_0 X _ _) rfl km_X12_315 ki_yX12_findOwed kv_X12_findOwed kz_X12 kc_X12_findOwed rfl ok_yX12_findOwed ⟨Nat.le_of_ble_eq_true rfl, Nat.le_of_ble_eq_true rfl⟩ rfl rfl rfl rfl hl.1 (Nat.le_of_ble_eq_true rfl) dX12_bestCry_52 ⟨Nat.zero_le _, Nat.zero_le _⟩) (fun H locs hw => ?_)
      refine lv_aload_n hx hb dX12_bestCry_55 rfl (lv_at hl 0 rfl) ?_
      refine lv_aload_n hx hb dX12_bestCry_56 rfl (lv_at hl 0 rfl) ?_
      refine w_get (T := TX12) C hw (by decide) 14 kf_X12_40 (EM_0 X _ _) rfl inA12 (by decide) rfl dX12_bestCry_57 ?_
      refine lv_iload_n hx hb dX12_bestCry_60 rfl (lv_at hl 1 rfl) ?_
      obtain ⟨h16, hf⟩ := gd_some hf
      refine w_iald C hw (by decide) (EM_11 X _ _) h16 rfl dX12_bestCry_61 ?_
      obtain ⟨r17, k18, hf⟩ := bd_some hf
      refine w_goI hw (w_runV (rest := []) C hw (zX12_owedAll _ _ n r14 (gI r14 11 v1.toNatClampNeg) r17 k18) (by decide) (EM_0 X _ _) rfl km_X12_324 ki_yX12_owedAll kv_X12_owedAll kz_X12 kc_X12_owedAll rfl ok_yX12_owedAll ⟨Nat.le_of_ble_eq_true rfl, Nat.le_of_ble_eq_true rfl⟩ rfl rfl rfl rfl hl.1 (Nat.le_of_ble_eq_true rfl) dX12_bestCry_62 ⟨Nat.zero_le _, Nat.zero_le _⟩) (fun H locs hw => ?_)
      refine lv_iload hx hb dX12_bestCry_65 (lv_at hl 5 rfl) ?_
      refine lv_icmp_gt (tgt := 73) hx hb dX12_bestCry_67 (by decide) (fun c19 => ?_) (fun c19 => ?_)
      · replace hf := ite_t hf c19
        refine lv_iload hx hb dX12_bestCry_73 (lv_at hl 6 rfl) ?_
        refine lv_istore (lv' := [(4, .int v6), (0, .ref (xq X 0)), (1, .int v1), (2, .int v2), (3, .int v3), (5, .int v5), (6, .int v6)]) hx hb dX12_bestCry_75 hl (by decide) rfl (fun ls hl => ?_)
        refine lv_aload_n hx hb dX12_bestCry_77 rfl (lv_at hl 1 rfl) ?_
        refine lv_aload_n hx hb dX12_bestCry_78 rfl (lv_at hl 1 rfl) ?_
        refine w_get (T := TX12) C hw (by decide) 14 kf_X12_40 (EM_0 X _ _) rfl inA12 (by decide) rfl dX12_bestCry_79 ?_
        refine lv_iload_n hx hb dX12_bestCry_82 rfl (lv_at hl 2 rfl) ?_
        obtain ⟨h20, hf⟩ := gd_some hf
        refine w_iald C hw (by decide) (EM_11 X _ _) h20 rfl dX12_bestCry_83 ?_
        obtain ⟨r21, k22, hf⟩ := bd_some hf
        refine w_goI hw (w_runV (rest := []) C hw (zX12_owedAll _ _ n r14 (gI r14 11 v1.toNatClampNeg) r21 k22) (by decide) (EM_0 X _ _) rfl km_X12_324 ki_yX12_owedAll kv_X12_owedAll kz_X12 kc_X12_owedAll rfl ok_yX12_owedAll ⟨Nat.le_of_ble_eq_true rfl, Nat.le_of_ble_eq_true rfl⟩ rfl rfl rfl rfl hl.1 (Nat.le_of_ble_eq_true rfl) dX12_bestCry_84 ⟨Nat.zero_le _, Nat.zero_le _⟩) (fun H locs hw => ?_)
        refine lv_istore (lv' := [(5, .int r21), (4, .int v6), (0, .ref (xq X 0)), (1, .int v1), (2, .int v2), (3, .int v3), (6, .int v6)]) hx hb dX12_bestCry_87 hl (by decide) rfl (fun ls hl => ?_)
        obtain ⟨x23, e24⟩ : ∃ z : Int32, z = v6 + (1 : Int32) := ⟨_, rfl⟩
        replace hf := bnd_nm hf e24
        refine lv_iinc (v := x23) (lv' := [(6, .int x23), (5, .int r21), (4, .int v6), (0, .ref (xq X 0)), (1, .int v1), (2, .int v2), (3, .int v3)]) hx hb dX12_bestCry_89 hl (k := 6) rfl (by rw [e24]; rfl) (by decide) rfl (fun ls hl => ?_)
        refine lv_goto (tgt := 35) hx hb dX12_bestCry_92 (by decide) ?_
        exact ih r14 v1 v2 v3 v6 r21 x23 _ _ _ hw (lv_sub hl [3, 4, 5, 6, 2, 1, 0] rfl) hf
      · replace hf := ite_f hf c19
        refine lv_goto (tgt := 89) hx hb dX12_bestCry_70 (by decide) ?_
        obtain ⟨x25, e26⟩ : ∃ z : Int32, z = v6 + (1 : Int32) := ⟨_, rfl⟩
        replace hf := bnd_nm hf e26
        refine lv_iinc (v := x25) (lv' := [(6, .int x25), (0, .ref (xq X 0)), (1, .int v1), (2, .int v2), (3, .int v3), (4, .int v4), (5, .int v5)]) hx hb dX12_bestCry_89 hl (k := 6) rfl (by rw [e26]; rfl) (by decide) rfl (fun ls hl => ?_)
        refine lv_goto (tgt := 35) hx hb dX12_bestCry_92 (by decide) ?_
        exact ih r14 v1 v2 v3 v4 v5 x25 _ _ _ hw (lv_sub hl [1, 2, 3, 4, 5, 6, 0] rfl) hf
def fX12_bestCry (n : Nat) (st : St) (a1 : Int32) (a2 : Int32) : Option (Int32 × St) := if bI (fX12_isCry st a1) = 0 then (some ((-1 : Int32), st)) else (if bI (fX12_in a2 (0 : Int32) (1 : Int32)) = 0 then (some ((-1 : Int32), st)) else (gd (inB a1 13) (bnd (gI st 12 a1.toNatClampNeg) (fun x4 => fX12_bestCry_35 n n st a1 a2 x4 (0 : Int32) (-1 : Int32) (0 : Int32)))))
set_option maxHeartbeats 4000000 in
theorem zX12_bestCry (l : Launch) (X : WX) (n : Nat) (st : St) (a1 : Int32) (a2 : Int32) (R : Int32 × St) (hf : fX12_bestCry n st a1 a2 = some R) : CtI l yX12_bestCry cX12_bestCry 7 .int ({ frames := 7, cells := 0, slots := 0, locals := 167 }) EM 43 X [.ref (xq X 0), .int a1, .int a2] st R.1 R.2 := by
  refine ct_in (own := RX12) (by decide +kernel) rfl (Nat.le_of_ble_eq_true rfl) (fun p e s m below meth c C hr hw ls hl => ?_)
  obtain ⟨hx, hb, hml, hown, hts⟩ := id C.1
  have hl : lv_has ls 7 [(0, .ref (xq X 0)), (1, .int a1), (2, .int a2)] := hl
  unfold fX12_bestCry at hf
  refine lv_aload_n hx hb dX12_bestCry_0 rfl (lv_at hl 0 rfl) ?_
  refine lv_iload_n hx hb dX12_bestCry_1 rfl (lv_at hl 1 rfl) ?_
  refine w_goI hw (w_runV (rest := []) C hw (zX12_isCry _ _ st a1) (by decide) (EM_0 X _ _) rfl km_X12_200 ki_yX12_isCry kv_X12_isCry kz_X12 kc_X12_isCry rfl ok_yX12_isCry ⟨Nat.le_of_ble_eq_true rfl, Nat.le_of_ble_eq_true rfl⟩ rfl rfl rfl rfl hl.1 (Nat.le_of_ble_eq_true rfl) dX12_bestCry_2 ⟨Nat.zero_le _, Nat.zero_le _⟩) (fun H locs hw => ?_)
  refine lv_if_eq (tgt := 17) hx hb dX12_bestCry_5 (by decide) (fun c1 => ?_) (fun c1 => ?_)
  · replace hf := ite_t hf c1
    refine lv_iconst (v := -1) hx hb dX12_bestCry_17 (by decide) ?_
    exact w_iret C hw hr (so2 hf).1 (so2 hf).2 dX12_bestCry_18
  · replace hf := ite_f hf c1
    refine lv_iload_n hx hb dX12_bestCry_8 rfl (lv_at hl 2 rfl) ?_
    refine lv_iconst (v := 0) hx hb dX12_bestCry_9 (by decide) ?_
    refine lv_iconst (v := 1) hx hb dX12_bestCry_10 (by decide) ?_
    refine w_goI hw (w_runS (rest := []) C hw (zX12_in _ _ st a2 (0 : Int32) (1 : Int32)) km_X12_147 kt_yX12_in kz_X12 kc_X12_in ok_yX12_in ⟨Nat.le_of_ble_eq_true rfl, Nat.le_of_ble_eq_true rfl⟩ rfl rfl rfl rfl hl.1 (Nat.le_of_ble_eq_true rfl) dX12_bestCry_11 ⟨Nat.zero_le _, Nat.zero_le _⟩) (fun H locs hw => ?_)
    refine lv_if_ne (tgt := 19) hx hb dX12_bestCry_14 (by decide) (fun c2 => ?_) (fun c2 => ?_)
    · replace hf := ite_f hf c2
      refine lv_aload_n hx hb dX12_bestCry_19 rfl (lv_at hl 0 rfl) ?_
      refine w_get (T := TX12) C hw (by decide) 15 kf_X12_43 (EM_0 X _ _) rfl inA12 (by decide) rfl dX12_bestCry_20 ?_
      refine lv_iload_n hx hb dX12_bestCry_23 rfl (lv_at hl 1 rfl) ?_
      obtain ⟨h3, hf⟩ := gd_some hf
      refine w_iald C hw (by decide) (EM_12 X _ _) h3 rfl dX12_bestCry_24 ?_
      refine lv_topi (fun x4 e5 => ?_)
      replace hf := bnd_nm hf e5
      refine lv_istore_n (lv' := [(3, .int x4), (0, .ref (xq X 0)), (1, .int a1), (2, .int a2)]) hx hb dX12_bestCry_25 rfl hl (by decide) rfl (fun ls hl => ?_)
      refine lv_iconst (v := 0) hx hb dX12_bestCry_26 (by decide) ?_
      refine lv_istore (lv' := [(4, .int (0 : Int32)), (3, .int x4), (0, .ref (xq X 0)), (1, .int a1), (2, .int a2)]) hx hb dX12_bestCry_27 hl (by decide) rfl (fun ls hl => ?_)
      refine lv_iconst (v := -1) hx hb dX12_bestCry_29 (by decide) ?_
      refine lv_istore (lv' := [(5, .int (-1 : Int32)), (4, .int (0 : Int32)), (3, .int x4), (0, .ref (xq X 0)), (1, .int a1), (2, .int a2)]) hx hb dX12_bestCry_30 hl (by decide) rfl (fun ls hl => ?_)
      refine lv_iconst (v := 0) hx hb dX12_bestCry_32 (by decide) ?_
      refine lv_istore (lv' := [(6, .int (0 : Int32)), (5, .int (-1 : Int32)), (4, .int (0 : Int32)), (3, .int x4), (0, .ref (xq X 0)), (1, .int a1), (2, .int a2)]) hx hb dX12_bestCry_33 hl (by decide) rfl (fun ls hl => ?_)
      exact tX12_bestCry_35 C hr n st a1 a2 x4 (0 : Int32) (-1 : Int32) (0 : Int32) _ _ _ hw (lv_sub hl [4, 5, 6, 3, 2, 1, 0] rfl) hf
    · replace hf := ite_t hf c2
      refine lv_iconst (v := -1) hx hb dX12_bestCry_17 (by decide) ?_
      exact w_iret C hw hr (so2 hf).1 (so2 hf).2 dX12_bestCry_18
theorem dX12_keepOwners_0 : decode cX12_keepOwners 0 = .ok (.iconst 0, 1) := by decide +kernel
theorem dX12_keepOwners_1 : decode cX12_keepOwners 1 = .ok (.istore_n 1, 1) := by decide +kernel
theorem dX12_keepOwners_2 : decode cX12_keepOwners 2 = .ok (.iload_n 1, 1) := by decide +kernel
theorem dX12_keepOwners_3 : decode cX12_keepOwners 3 = .ok (.aload_n 0, 1) := by decide +kernel
theorem dX12_keepOwners_4 : decode cX12_keepOwners 4 = .ok (.getfield 144, 3) := by decide +kernel
theorem dX12_keepOwners_7 : decode cX12_keepOwners 7 = .ok (.if_icmp .ge 21, 3) := by decide +kernel
theorem dX12_keepOwners_10 : decode cX12_keepOwners 10 = .ok (.aload_n 0, 1) := by decide +kernel
theorem dX12_keepOwners_11 : decode cX12_keepOwners 11 = .ok (.getfield 93, 3) := by decide +kernel
theorem dX12_keepOwners_14 : decode cX12_keepOwners 14 = .ok (.iload_n 1, 1) := by decide +kernel
theorem dX12_keepOwners_15 : decode cX12_keepOwners 15 = .ok (.aload_n 0, 1) := by decide +kernel
theorem dX12_keepOwners_16 : decode cX12_keepOwners 16 = .ok (.getfield 22, 3) := by decide +kernel
theorem dX12_keepOwners_19 : decode cX12_keepOwners 19 = .ok (.iload_n 1, 1) := by decide +kernel
theorem dX12_keepOwners_20 : decode cX12_keepOwners 20 = .ok (.iaload, 1) := by decide +kernel
theorem dX12_keepOwners_21 : decode cX12_keepOwners 21 = .ok (.iastore, 1) := by decide +kernel
theorem dX12_keepOwners_22 : decode cX12_keepOwners 22 = .ok (.iinc 1 1, 3) := by decide +kernel
theorem dX12_keepOwners_25 : decode cX12_keepOwners 25 = .ok (.goto (-23), 3) := by decide +kernel
theorem dX12_keepOwners_28 : decode cX12_keepOwners 28 = .ok (.return_, 1) := by decide +kernel
theorem ok_yX12_keepOwners : yOk yX12_keepOwners 0 := ⟨by decide +kernel, by decide +kernel, by decide +kernel⟩
def fX12_keepOwners_2 (n : Nat) : Nat → St → Int32 → Option (St)
  | 0, _, _ => none
  | k + 1, st, v1 => if gI st 0 1 ≤ v1 then (some st) else (gd (inB v1 8) (gd (inB v1 8) (bnd (sI st 28 v1.toNatClampNeg (gI st 5 v1.toNatClampNeg)) (fun st4 => bnd (v1 + (1 : Int32)) (fun x6 => fX12_keepOwners_2 n k st4 x6)))))
set_option maxHeartbeats 4000000 in
theorem tX12_keepOwners_2 {p : Program} {l : Launch} {e : Env} {s : State} {m : MethodId} {args : Array Value} {below : List Frame} {meth : Method} {c : Code} {X : WX} (C : Amb 43 X p s m args meth c cX12_keepOwners 2 RX12) (hr : meth.sig.returnType = none) {R : St} {n : Nat} : ∀ (k : Nat) (st : St) (v1 : Int32) (H : Heap) (locs : List Loc) (ls : Array Slot), Wd EM 43 X s.heap st H locs → lv_has ls 2 [(0, .ref (xq X 0)), (1, .int v1)] → fX12_keepOwners_2 n k st v1 = some R → W p l e { frames := 0, cells := 0, slots := 0, locals := 0 } s m args below meth c H locs 0 0 (QV EM 43 X R below args s) (F0 m 2 ls []) := by
  obtain ⟨hx, hb, hml, hown, hts⟩ := id C.1
  intro k
  induction k with
  | zero => intro st v1 H locs ls  hw hl hf; exact absurd (show none = some R from hf) (fun z => by cases z)
  | succ k ih =>
    intro st v1 H locs ls  hw hl hf
    rw [fX12_keepOwners_2] at hf
    refine lv_iload_n hx hb dX12_keepOwners_2 rfl (lv_at hl 1 rfl) ?_
    refine lv_aload_n hx hb dX12_keepOwners_3 rfl (lv_at hl 0 rfl) ?_
    refine w_get (T := TX12) C hw (by decide) 1 kf_X12_144 (EM_0 X _ _) rfl inA12 (by decide) rfl dX12_keepOwners_4 ?_
    refine lv_icmp_ge (tgt := 28) hx hb dX12_keepOwners_7 (by decide) (fun c1 => ?_) (fun c1 => ?_)
    · replace hf := ite_t hf c1
      exact w_vret C hw hr (Option.some.inj hf) dX12_keepOwners_28
    · replace hf := ite_f hf c1
      refine lv_aload_n hx hb dX12_keepOwners_10 rfl (lv_at hl 0 rfl) ?_
      refine w_get (T := TX12) C hw (by decide) 39 kf_X12_93 (EM_0 X _ _) rfl inA12 (by decide) rfl dX12_keepOwners_11 ?_
      refine lv_iload_n hx hb dX12_keepOwners_14 rfl (lv_at hl 1 rfl) ?_
      refine lv_aload_n hx hb dX12_keepOwners_15 rfl (lv_at hl 0 rfl) ?_
      refine w_get (T := TX12) C hw (by decide) 6 kf_X12_22 (EM_0 X _ _) rfl inA12 (by decide) rfl dX12_keepOwners_16 ?_
      refine lv_iload_n hx hb dX12_keepOwners_19 rfl (lv_at hl 1 rfl) ?_
      obtain ⟨h2, hf⟩ := gd_some hf
      refine w_iald C hw (by decide) (EM_5 X _ _) h2 rfl dX12_keepOwners_20 ?_
      obtain ⟨h3, hf⟩ := gd_some hf
      obtain ⟨st4, es5⟩ : ∃ z : St, z = sI st 28 v1.toNatClampNeg (gI st 5 v1.toNatClampNeg) := ⟨_, rfl⟩
      replace hf := bnd_nm hf es5
      refine w_iast C hw (by decide) (fun f9 => EM_28 X f9 _) h3 rfl dX12_keepOwners_21 (fun H locs hw => ?_)
      rw [← es5] at hw
      obtain ⟨x6, e7⟩ : ∃ z : Int32, z = v1 + (1 : Int32) := ⟨_, rfl⟩
      replace hf := bnd_nm hf e7
      refine lv_iinc (v := x6) (lv' := [(1, .int x6), (0, .ref (xq X 0))]) hx hb dX12_keepOwners_22 hl (k := 1) rfl (by rw [e7]; rfl) (by decide) rfl (fun ls hl => ?_)
      refine lv_goto (tgt := 2) hx hb dX12_keepOwners_25 (by decide) ?_
      exact ih st4 x6 _ _ _ hw (lv_sub hl [1, 0] rfl) hf
def fX12_keepOwners (n : Nat) (st : St) : Option (St) := fX12_keepOwners_2 n n st (0 : Int32)
set_option maxHeartbeats 4000000 in
theorem zX12_keepOwners (l : Launch) (X : WX) (n : Nat) (st : St)  (R : St) (hf : fX12_keepOwners n st = some R) : CtV l yX12_keepOwners cX12_keepOwners 2 ({ frames := 0, cells := 0, slots := 0, locals := 0 }) EM 43 X [.ref (xq X 0)] st R := by
  refine ct_in (own := RX12) (by decide +kernel) rfl (Nat.le_of_ble_eq_true rfl) (fun p e s m below meth c C hr hw ls hl => ?_)
  obtain ⟨hx, hb, hml, hown, hts⟩ := id C.1
  have hl : lv_has ls 2 [(0, .ref (xq X 0))] := hl
  unfold fX12_keepOwners at hf
  refine lv_iconst (v := 0) hx hb dX12_keepOwners_0 (by decide) ?_
  refine lv_istore_n (lv' := [(1, .int (0 : Int32)), (0, .ref (xq X 0))]) hx hb dX12_keepOwners_1 rfl hl (by decide) rfl (fun ls hl => ?_)
  exact tX12_keepOwners_2 C hr n st (0 : Int32) _ _ _ hw (lv_sub hl [1, 0] rfl) hf
theorem dX12_layOwners_0 : decode cX12_layOwners 0 = .ok (.iconst 0, 1) := by decide +kernel
theorem dX12_layOwners_1 : decode cX12_layOwners 1 = .ok (.istore_n 1, 1) := by decide +kernel
theorem dX12_layOwners_2 : decode cX12_layOwners 2 = .ok (.iload_n 1, 1) := by decide +kernel
theorem dX12_layOwners_3 : decode cX12_layOwners 3 = .ok (.aload_n 0, 1) := by decide +kernel
theorem dX12_layOwners_4 : decode cX12_layOwners 4 = .ok (.getfield 144, 3) := by decide +kernel
theorem dX12_layOwners_7 : decode cX12_layOwners 7 = .ok (.if_icmp .ge 21, 3) := by decide +kernel
theorem dX12_layOwners_10 : decode cX12_layOwners 10 = .ok (.aload_n 0, 1) := by decide +kernel
theorem dX12_layOwners_11 : decode cX12_layOwners 11 = .ok (.getfield 22, 3) := by decide +kernel
theorem dX12_layOwners_14 : decode cX12_layOwners 14 = .ok (.iload_n 1, 1) := by decide +kernel
theorem dX12_layOwners_15 : decode cX12_layOwners 15 = .ok (.aload_n 0, 1) := by decide +kernel
theorem dX12_layOwners_16 : decode cX12_layOwners 16 = .ok (.getfield 93, 3) := by decide +kernel
theorem dX12_layOwners_19 : decode cX12_layOwners 19 = .ok (.iload_n 1, 1) := by decide +kernel
theorem dX12_layOwners_20 : decode cX12_layOwners 20 = .ok (.iaload, 1) := by decide +kernel
theorem dX12_layOwners_21 : decode cX12_layOwners 21 = .ok (.iastore, 1) := by decide +kernel
theorem dX12_layOwners_22 : decode cX12_layOwners 22 = .ok (.iinc 1 1, 3) := by decide +kernel
theorem dX12_layOwners_25 : decode cX12_layOwners 25 = .ok (.goto (-23), 3) := by decide +kernel
theorem dX12_layOwners_28 : decode cX12_layOwners 28 = .ok (.return_, 1) := by decide +kernel
theorem ok_yX12_layOwners : yOk yX12_layOwners 0 := ⟨by decide +kernel, by decide +kernel, by decide +kernel⟩
def fX12_layOwners_2 (n : Nat) : Nat → St → Int32 → Option (St)
  | 0, _, _ => none
  | k + 1, st, v1 => if gI st 0 1 ≤ v1 then (some st) else (gd (inB v1 8) (gd (inB v1 8) (bnd (sI st 5 v1.toNatClampNeg (gI st 28 v1.toNatClampNeg)) (fun st4 => bnd (v1 + (1 : Int32)) (fun x6 => fX12_layOwners_2 n k st4 x6)))))
set_option maxHeartbeats 4000000 in
theorem tX12_layOwners_2 {p : Program} {l : Launch} {e : Env} {s : State} {m : MethodId} {args : Array Value} {below : List Frame} {meth : Method} {c : Code} {X : WX} (C : Amb 43 X p s m args meth c cX12_layOwners 2 RX12) (hr : meth.sig.returnType = none) {R : St} {n : Nat} : ∀ (k : Nat) (st : St) (v1 : Int32) (H : Heap) (locs : List Loc) (ls : Array Slot), Wd EM 43 X s.heap st H locs → lv_has ls 2 [(0, .ref (xq X 0)), (1, .int v1)] → fX12_layOwners_2 n k st v1 = some R → W p l e { frames := 0, cells := 0, slots := 0, locals := 0 } s m args below meth c H locs 0 0 (QV EM 43 X R below args s) (F0 m 2 ls []) := by
  obtain ⟨hx, hb, hml, hown, hts⟩ := id C.1
  intro k
  induction k with
  | zero => intro st v1 H locs ls  hw hl hf; exact absurd (show none = some R from hf) (fun z => by cases z)
  | succ k ih =>
    intro st v1 H locs ls  hw hl hf
    rw [fX12_layOwners_2] at hf
    refine lv_iload_n hx hb dX12_layOwners_2 rfl (lv_at hl 1 rfl) ?_
    refine lv_aload_n hx hb dX12_layOwners_3 rfl (lv_at hl 0 rfl) ?_
    refine w_get (T := TX12) C hw (by decide) 1 kf_X12_144 (EM_0 X _ _) rfl inA12 (by decide) rfl dX12_layOwners_4 ?_
    refine lv_icmp_ge (tgt := 28) hx hb dX12_layOwners_7 (by decide) (fun c1 => ?_) (fun c1 => ?_)
    · replace hf := ite_t hf c1
      exact w_vret C hw hr (Option.some.inj hf) dX12_layOwners_28
    · replace hf := ite_f hf c1
      refine lv_aload_n hx hb dX12_layOwners_10 rfl (lv_at hl 0 rfl) ?_
      refine w_get (T := TX12) C hw (by decide) 6 kf_X12_22 (EM_0 X _ _) rfl inA12 (by decide) rfl dX12_layOwners_11 ?_
      refine lv_iload_n hx hb dX12_layOwners_14 rfl (lv_at hl 1 rfl) ?_
      refine lv_aload_n hx hb dX12_layOwners_15 rfl (lv_at hl 0 rfl) ?_
      refine w_get (T := TX12) C hw (by decide) 39 kf_X12_93 (EM_0 X _ _) rfl inA12 (by decide) rfl dX12_layOwners_16 ?_
      refine lv_iload_n hx hb dX12_layOwners_19 rfl (lv_at hl 1 rfl) ?_
      obtain ⟨h2, hf⟩ := gd_some hf
      refine w_iald C hw (by decide) (EM_28 X _ _) h2 rfl dX12_layOwners_20 ?_
      obtain ⟨h3, hf⟩ := gd_some hf
      obtain ⟨st4, es5⟩ : ∃ z : St, z = sI st 5 v1.toNatClampNeg (gI st 28 v1.toNatClampNeg) := ⟨_, rfl⟩
      replace hf := bnd_nm hf es5
      refine w_iast C hw (by decide) (fun f9 => EM_5 X f9 _) h3 rfl dX12_layOwners_21 (fun H locs hw => ?_)
      rw [← es5] at hw
      obtain ⟨x6, e7⟩ : ∃ z : Int32, z = v1 + (1 : Int32) := ⟨_, rfl⟩
      replace hf := bnd_nm hf e7
      refine lv_iinc (v := x6) (lv' := [(1, .int x6), (0, .ref (xq X 0))]) hx hb dX12_layOwners_22 hl (k := 1) rfl (by rw [e7]; rfl) (by decide) rfl (fun ls hl => ?_)
      refine lv_goto (tgt := 2) hx hb dX12_layOwners_25 (by decide) ?_
      exact ih st4 x6 _ _ _ hw (lv_sub hl [1, 0] rfl) hf
def fX12_layOwners (n : Nat) (st : St) : Option (St) := fX12_layOwners_2 n n st (0 : Int32)
set_option maxHeartbeats 4000000 in
theorem zX12_layOwners (l : Launch) (X : WX) (n : Nat) (st : St)  (R : St) (hf : fX12_layOwners n st = some R) : CtV l yX12_layOwners cX12_layOwners 2 ({ frames := 0, cells := 0, slots := 0, locals := 0 }) EM 43 X [.ref (xq X 0)] st R := by
  refine ct_in (own := RX12) (by decide +kernel) rfl (Nat.le_of_ble_eq_true rfl) (fun p e s m below meth c C hr hw ls hl => ?_)
  obtain ⟨hx, hb, hml, hown, hts⟩ := id C.1
  have hl : lv_has ls 2 [(0, .ref (xq X 0))] := hl
  unfold fX12_layOwners at hf
  refine lv_iconst (v := 0) hx hb dX12_layOwners_0 (by decide) ?_
  refine lv_istore_n (lv' := [(1, .int (0 : Int32)), (0, .ref (xq X 0))]) hx hb dX12_layOwners_1 rfl hl (by decide) rfl (fun ls hl => ?_)
  exact tX12_layOwners_2 C hr n st (0 : Int32) _ _ _ hw (lv_sub hl [1, 0] rfl) hf
theorem dX12_costOf_0 : decode cX12_costOf 0 = .ok (.iconst 0, 1) := by decide +kernel
theorem dX12_costOf_1 : decode cX12_costOf 1 = .ok (.istore_n 3, 1) := by decide +kernel
theorem dX12_costOf_2 : decode cX12_costOf 2 = .ok (.iconst 0, 1) := by decide +kernel
theorem dX12_costOf_3 : decode cX12_costOf 3 = .ok (.istore 4, 2) := by decide +kernel
theorem dX12_costOf_5 : decode cX12_costOf 5 = .ok (.iload 4, 2) := by decide +kernel
theorem dX12_costOf_7 : decode cX12_costOf 7 = .ok (.aload_n 0, 1) := by decide +kernel
theorem dX12_costOf_8 : decode cX12_costOf 8 = .ok (.getfield 144, 3) := by decide +kernel
theorem dX12_costOf_11 : decode cX12_costOf 11 = .ok (.if_icmp .ge 44, 3) := by decide +kernel
theorem dX12_costOf_14 : decode cX12_costOf 14 = .ok (.iload_n 2, 1) := by decide +kernel
theorem dX12_costOf_15 : decode cX12_costOf 15 = .ok (.iload 4, 2) := by decide +kernel
theorem dX12_costOf_17 : decode cX12_costOf 17 = .ok (.ishr, 1) := by decide +kernel
theorem dX12_costOf_18 : decode cX12_costOf 18 = .ok (.iconst 1, 1) := by decide +kernel
theorem dX12_costOf_19 : decode cX12_costOf 19 = .ok (.iand, 1) := by decide +kernel
theorem dX12_costOf_20 : decode cX12_costOf 20 = .ok (.ifCond .ne 6, 3) := by decide +kernel
theorem dX12_costOf_23 : decode cX12_costOf 23 = .ok (.goto 26, 3) := by decide +kernel
theorem dX12_costOf_26 : decode cX12_costOf 26 = .ok (.aload_n 0, 1) := by decide +kernel
theorem dX12_costOf_27 : decode cX12_costOf 27 = .ok (.getfield 22, 3) := by decide +kernel
theorem dX12_costOf_30 : decode cX12_costOf 30 = .ok (.iload 4, 2) := by decide +kernel
theorem dX12_costOf_32 : decode cX12_costOf 32 = .ok (.iaload, 1) := by decide +kernel
theorem dX12_costOf_33 : decode cX12_costOf 33 = .ok (.iload_n 1, 1) := by decide +kernel
theorem dX12_costOf_34 : decode cX12_costOf 34 = .ok (.if_icmp .ne 5, 3) := by decide +kernel
theorem dX12_costOf_37 : decode cX12_costOf 37 = .ok (.iconst (-1), 1) := by decide +kernel
theorem dX12_costOf_38 : decode cX12_costOf 38 = .ok (.ireturn, 1) := by decide +kernel
theorem dX12_costOf_39 : decode cX12_costOf 39 = .ok (.iload_n 3, 1) := by decide +kernel
theorem dX12_costOf_40 : decode cX12_costOf 40 = .ok (.aload_n 0, 1) := by decide +kernel
theorem dX12_costOf_41 : decode cX12_costOf 41 = .ok (.getfield 25, 3) := by decide +kernel
theorem dX12_costOf_44 : decode cX12_costOf 44 = .ok (.iload 4, 2) := by decide +kernel
theorem dX12_costOf_46 : decode cX12_costOf 46 = .ok (.iaload, 1) := by decide +kernel
theorem dX12_costOf_47 : decode cX12_costOf 47 = .ok (.iadd, 1) := by decide +kernel
theorem dX12_costOf_48 : decode cX12_costOf 48 = .ok (.istore_n 3, 1) := by decide +kernel
theorem dX12_costOf_49 : decode cX12_costOf 49 = .ok (.iinc 4 1, 3) := by decide +kernel
theorem dX12_costOf_52 : decode cX12_costOf 52 = .ok (.goto (-47), 3) := by decide +kernel
theorem dX12_costOf_55 : decode cX12_costOf 55 = .ok (.iload_n 3, 1) := by decide +kernel
theorem dX12_costOf_56 : decode cX12_costOf 56 = .ok (.ireturn, 1) := by decide +kernel
theorem ok_yX12_costOf : yOk yX12_costOf 2 := ⟨by decide +kernel, by decide +kernel, by decide +kernel⟩
def fX12_costOf_5 (n : Nat) (st : St) : Nat → Int32 → Int32 → Int32 → Int32 → Option (Int32)
  | 0, _, _, _, _ => none
  | k + 1, v1, v2, v3, v4 => if gI st 0 1 ≤ v4 then (some v3) else (if (v2 >>> (v4 &&& 31)) &&& (1 : Int32) = 0 then (bnd (v4 + (1 : Int32)) (fun x10 => fX12_costOf_5 n st k v1 v2 v3 x10)) else (gd (inB v4 8) (if gI st 5 v4.toNatClampNeg = v1 then (some (-1 : Int32)) else (gd (inB v4 8) (bnd (v3 + (gI st 6 v4.toNatClampNeg)) (fun x6 => bnd (v4 + (1 : Int32)) (fun x8 => fX12_costOf_5 n st k v1 v2 x6 x8)))))))
set_option maxHeartbeats 4000000 in
theorem tX12_costOf_5 {p : Program} {l : Launch} {e : Env} {s : State} {m : MethodId} {args : Array Value} {below : List Frame} {meth : Method} {c : Code} {X : WX} (C : Amb 43 X p s m args meth c cX12_costOf 5 RX12) (hr : meth.sig.returnType = some .int) {R : Int32} {n : Nat} {st : St} : ∀ (k : Nat) (v1 : Int32) (v2 : Int32) (v3 : Int32) (v4 : Int32) (H : Heap) (locs : List Loc) (ls : Array Slot), Wd EM 43 X s.heap st H locs → lv_has ls 5 [(0, .ref (xq X 0)), (1, .int v1), (2, .int v2), (3, .int v3), (4, .int v4)] → fX12_costOf_5 n st k v1 v2 v3 v4 = some R → W p l e { frames := 0, cells := 0, slots := 0, locals := 0 } s m args below meth c H locs 0 0 (QI EM 43 X R st below args s) (F0 m 5 ls []) := by
  obtain ⟨hx, hb, hml, hown, hts⟩ := id C.1
  intro k
  induction k with
  | zero => intro v1 v2 v3 v4 H locs ls  hw hl hf; exact absurd (show none = some R from hf) (fun z => by cases z)
  | succ k ih =>
    intro v1 v2 v3 v4 H locs ls  hw hl hf
    rw [fX12_costOf_5] at hf
    refine lv_iload hx hb dX12_costOf_5 (lv_at hl 4 rfl) ?_
    refine lv_aload_n hx hb dX12_costOf_7 rfl (lv_at hl 0 rfl) ?_
    refine w_get (T := TX12) C hw (by decide) 1 kf_X12_144 (EM_0 X _ _) rfl inA12 (by decide) rfl dX12_costOf_8 ?_
    refine lv_icmp_ge (tgt := 55) hx hb dX12_costOf_11 (by decide) (fun c1 => ?_) (fun c1 => ?_)
    · replace hf := ite_t hf c1
      refine lv_iload_n hx hb dX12_costOf_55 rfl (lv_at hl 3 rfl) ?_
      exact w_iret C hw hr (Option.some.inj hf) rfl dX12_costOf_56
    · replace hf := ite_f hf c1
      refine lv_iload_n hx hb dX12_costOf_14 rfl (lv_at hl 2 rfl) ?_
      refine lv_iload hx hb dX12_costOf_15 (lv_at hl 4 rfl) ?_
      refine lv_ishr hx hb dX12_costOf_17 ?_
      refine lv_iconst (v := 1) hx hb dX12_costOf_18 (by decide) ?_
      refine lv_iand hx hb dX12_costOf_19 ?_
      refine lv_if_ne (tgt := 26) hx hb dX12_costOf_20 (by decide) (fun c2 => ?_) (fun c2 => ?_)
      · replace hf := ite_f hf c2
        refine lv_aload_n hx hb dX12_costOf_26 rfl (lv_at hl 0 rfl) ?_
        refine w_get (T := TX12) C hw (by decide) 6 kf_X12_22 (EM_0 X _ _) rfl inA12 (by decide) rfl dX12_costOf_27 ?_
        refine lv_iload hx hb dX12_costOf_30 (lv_at hl 4 rfl) ?_
        obtain ⟨h3, hf⟩ := gd_some hf
        refine w_iald C hw (by decide) (EM_5 X _ _) h3 rfl dX12_costOf_32 ?_
        refine lv_iload_n hx hb dX12_costOf_33 rfl (lv_at hl 1 rfl) ?_
        refine lv_icmp_ne (tgt := 39) hx hb dX12_costOf_34 (by decide) (fun c4 => ?_) (fun c4 => ?_)
        · replace hf := ite_f hf c4
          refine lv_iload_n hx hb dX12_costOf_39 rfl (lv_at hl 3 rfl) ?_
          refine lv_aload_n hx hb dX12_costOf_40 rfl (lv_at hl 0 rfl) ?_
          refine w_get (T := TX12) C hw (by decide) 7 kf_X12_25 (EM_0 X _ _) rfl inA12 (by decide) rfl dX12_costOf_41 ?_
          refine lv_iload hx hb dX12_costOf_44 (lv_at hl 4 rfl) ?_
          obtain ⟨h5, hf⟩ := gd_some hf
          refine w_iald C hw (by decide) (EM_6 X _ _) h5 rfl dX12_costOf_46 ?_
          refine lv_iadd hx hb dX12_costOf_47 ?_
          refine lv_topi (fun x6 e7 => ?_)
          replace hf := bnd_nm hf e7
          refine lv_istore_n (lv' := [(3, .int x6), (0, .ref (xq X 0)), (1, .int v1), (2, .int v2), (4, .int v4)]) hx hb dX12_costOf_48 rfl hl (by decide) rfl (fun ls hl => ?_)
          obtain ⟨x8, e9⟩ : ∃ z : Int32, z = v4 + (1 : Int32) := ⟨_, rfl⟩
          replace hf := bnd_nm hf e9
          refine lv_iinc (v := x8) (lv' := [(4, .int x8), (3, .int x6), (0, .ref (xq X 0)), (1, .int v1), (2, .int v2)]) hx hb dX12_costOf_49 hl (k := 4) rfl (by rw [e9]; rfl) (by decide) rfl (fun ls hl => ?_)
          refine lv_goto (tgt := 5) hx hb dX12_costOf_52 (by decide) ?_
          exact ih v1 v2 x6 x8 _ _ _ hw (lv_sub hl [2, 3, 4, 1, 0] rfl) hf
        · replace hf := ite_t hf c4
          refine lv_iconst (v := -1) hx hb dX12_costOf_37 (by decide) ?_
          exact w_iret C hw hr (Option.some.inj hf) rfl dX12_costOf_38
      · replace hf := ite_t hf c2
        refine lv_goto (tgt := 49) hx hb dX12_costOf_23 (by decide) ?_
        obtain ⟨x10, e11⟩ : ∃ z : Int32, z = v4 + (1 : Int32) := ⟨_, rfl⟩
        replace hf := bnd_nm hf e11
        refine lv_iinc (v := x10) (lv' := [(4, .int x10), (0, .ref (xq X 0)), (1, .int v1), (2, .int v2), (3, .int v3)]) hx hb dX12_costOf_49 hl (k := 4) rfl (by rw [e11]; rfl) (by decide) rfl (fun ls hl => ?_)
        refine lv_goto (tgt := 5) hx hb dX12_costOf_52 (by decide) ?_
        exact ih v1 v2 v3 x10 _ _ _ hw (lv_sub hl [1, 2, 3, 4, 0] rfl) hf
def fX12_costOf (n : Nat) (st : St) (a1 : Int32) (a2 : Int32) : Option (Int32) := fX12_costOf_5 n st n a1 a2 (0 : Int32) (0 : Int32)
set_option maxHeartbeats 4000000 in
theorem zX12_costOf (l : Launch) (X : WX) (n : Nat) (st : St) (a1 : Int32) (a2 : Int32) (R : Int32) (hf : fX12_costOf n st a1 a2 = some R) : CtI l yX12_costOf cX12_costOf 5 .int ({ frames := 0, cells := 0, slots := 0, locals := 0 }) EM 43 X [.ref (xq X 0), .int a1, .int a2] st R st := by
  refine ct_in (own := RX12) (by decide +kernel) rfl (Nat.le_of_ble_eq_true rfl) (fun p e s m below meth c C hr hw ls hl => ?_)
  obtain ⟨hx, hb, hml, hown, hts⟩ := id C.1
  have hl : lv_has ls 5 [(0, .ref (xq X 0)), (1, .int a1), (2, .int a2)] := hl
  unfold fX12_costOf at hf
  refine lv_iconst (v := 0) hx hb dX12_costOf_0 (by decide) ?_
  refine lv_istore_n (lv' := [(3, .int (0 : Int32)), (0, .ref (xq X 0)), (1, .int a1), (2, .int a2)]) hx hb dX12_costOf_1 rfl hl (by decide) rfl (fun ls hl => ?_)
  refine lv_iconst (v := 0) hx hb dX12_costOf_2 (by decide) ?_
  refine lv_istore (lv' := [(4, .int (0 : Int32)), (3, .int (0 : Int32)), (0, .ref (xq X 0)), (1, .int a1), (2, .int a2)]) hx hb dX12_costOf_3 hl (by decide) rfl (fun ls hl => ?_)
  exact tX12_costOf_5 C hr n a1 a2 (0 : Int32) (0 : Int32) _ _ _ hw (lv_sub hl [2, 3, 4, 1, 0] rfl) hf
theorem dX12_buy_0 : decode cX12_buy 0 = .ok (.iload_n 1, 1) := by decide +kernel
theorem dX12_buy_1 : decode cX12_buy 1 = .ok (.invokestatic 173, 3) := by decide +kernel
theorem dX12_buy_4 : decode cX12_buy 4 = .ok (.ifCond .eq 19, 3) := by decide +kernel
theorem dX12_buy_7 : decode cX12_buy 7 = .ok (.iload_n 2, 1) := by decide +kernel
theorem dX12_buy_8 : decode cX12_buy 8 = .ok (.invokestatic 161, 3) := by decide +kernel
theorem dX12_buy_11 : decode cX12_buy 11 = .ok (.ifCond .eq 12, 3) := by decide +kernel
theorem dX12_buy_14 : decode cX12_buy 14 = .ok (.iload_n 3, 1) := by decide +kernel
theorem dX12_buy_15 : decode cX12_buy 15 = .ok (.iconst 0, 1) := by decide +kernel
theorem dX12_buy_16 : decode cX12_buy 16 = .ok (.iconst 1, 1) := by decide +kernel
theorem dX12_buy_17 : decode cX12_buy 17 = .ok (.invokestatic 147, 3) := by decide +kernel
theorem dX12_buy_20 : decode cX12_buy 20 = .ok (.ifCond .ne 6, 3) := by decide +kernel
theorem dX12_buy_23 : decode cX12_buy 23 = .ok (.ldc 213, 2) := by decide +kernel
theorem dX12_buy_25 : decode cX12_buy 25 = .ok (.ireturn, 1) := by decide +kernel
theorem dX12_buy_26 : decode cX12_buy 26 = .ok (.iconst (-1), 1) := by decide +kernel
theorem dX12_buy_27 : decode cX12_buy 27 = .ok (.istore 4, 2) := by decide +kernel
theorem dX12_buy_29 : decode cX12_buy 29 = .ok (.iconst 0, 1) := by decide +kernel
theorem dX12_buy_30 : decode cX12_buy 30 = .ok (.istore 5, 2) := by decide +kernel
theorem dX12_buy_32 : decode cX12_buy 32 = .ok (.iconst 0, 1) := by decide +kernel
theorem dX12_buy_33 : decode cX12_buy 33 = .ok (.istore 6, 2) := by decide +kernel
theorem dX12_buy_35 : decode cX12_buy 35 = .ok (.aload_n 0, 1) := by decide +kernel
theorem dX12_buy_36 : decode cX12_buy 36 = .ok (.invokevirtual 355, 3) := by decide +kernel
theorem dX12_buy_39 : decode cX12_buy 39 = .ok (.iconst 0, 1) := by decide +kernel
theorem dX12_buy_40 : decode cX12_buy 40 = .ok (.istore 7, 2) := by decide +kernel
theorem dX12_buy_42 : decode cX12_buy 42 = .ok (.iload 7, 2) := by decide +kernel
theorem dX12_buy_44 : decode cX12_buy 44 = .ok (.iconst 1, 1) := by decide +kernel
theorem dX12_buy_45 : decode cX12_buy 45 = .ok (.aload_n 0, 1) := by decide +kernel
theorem dX12_buy_46 : decode cX12_buy 46 = .ok (.getfield 144, 3) := by decide +kernel
theorem dX12_buy_49 : decode cX12_buy 49 = .ok (.ishl, 1) := by decide +kernel
theorem dX12_buy_50 : decode cX12_buy 50 = .ok (.if_icmp .ge 131, 3) := by decide +kernel
theorem dX12_buy_53 : decode cX12_buy 53 = .ok (.aload_n 0, 1) := by decide +kernel
theorem dX12_buy_54 : decode cX12_buy 54 = .ok (.iload_n 1, 1) := by decide +kernel
theorem dX12_buy_55 : decode cX12_buy 55 = .ok (.iload 7, 2) := by decide +kernel
theorem dX12_buy_57 : decode cX12_buy 57 = .ok (.invokevirtual 358, 3) := by decide +kernel
theorem dX12_buy_60 : decode cX12_buy 60 = .ok (.istore 8, 2) := by decide +kernel
theorem dX12_buy_62 : decode cX12_buy 62 = .ok (.iload 8, 2) := by decide +kernel
theorem dX12_buy_64 : decode cX12_buy 64 = .ok (.ifCond .lt 111, 3) := by decide +kernel
theorem dX12_buy_67 : decode cX12_buy 67 = .ok (.iload 8, 2) := by decide +kernel
theorem dX12_buy_69 : decode cX12_buy 69 = .ok (.iload_n 2, 1) := by decide +kernel
theorem dX12_buy_70 : decode cX12_buy 70 = .ok (.if_icmp .le 6, 3) := by decide +kernel
theorem dX12_buy_73 : decode cX12_buy 73 = .ok (.goto 102, 3) := by decide +kernel
theorem dX12_buy_76 : decode cX12_buy 76 = .ok (.iconst 0, 1) := by decide +kernel
theorem dX12_buy_77 : decode cX12_buy 77 = .ok (.istore 9, 2) := by decide +kernel
theorem dX12_buy_79 : decode cX12_buy 79 = .ok (.iload 9, 2) := by decide +kernel
theorem dX12_buy_81 : decode cX12_buy 81 = .ok (.aload_n 0, 1) := by decide +kernel
theorem dX12_buy_82 : decode cX12_buy 82 = .ok (.getfield 144, 3) := by decide +kernel
theorem dX12_buy_85 : decode cX12_buy 85 = .ok (.if_icmp .ge 28, 3) := by decide +kernel
theorem dX12_buy_88 : decode cX12_buy 88 = .ok (.iload 7, 2) := by decide +kernel
theorem dX12_buy_90 : decode cX12_buy 90 = .ok (.iload 9, 2) := by decide +kernel
theorem dX12_buy_92 : decode cX12_buy 92 = .ok (.ishr, 1) := by decide +kernel
theorem dX12_buy_93 : decode cX12_buy 93 = .ok (.iconst 1, 1) := by decide +kernel
theorem dX12_buy_94 : decode cX12_buy 94 = .ok (.iand, 1) := by decide +kernel
theorem dX12_buy_95 : decode cX12_buy 95 = .ok (.iconst 1, 1) := by decide +kernel
theorem dX12_buy_96 : decode cX12_buy 96 = .ok (.if_icmp .ne 11, 3) := by decide +kernel
theorem dX12_buy_99 : decode cX12_buy 99 = .ok (.aload_n 0, 1) := by decide +kernel
theorem dX12_buy_100 : decode cX12_buy 100 = .ok (.getfield 22, 3) := by decide +kernel
theorem dX12_buy_103 : decode cX12_buy 103 = .ok (.iload 9, 2) := by decide +kernel
theorem dX12_buy_105 : decode cX12_buy 105 = .ok (.iload_n 1, 1) := by decide +kernel
theorem dX12_buy_106 : decode cX12_buy 106 = .ok (.iastore, 1) := by decide +kernel
theorem dX12_buy_107 : decode cX12_buy 107 = .ok (.iinc 9 1, 3) := by decide +kernel
theorem dX12_buy_110 : decode cX12_buy 110 = .ok (.goto (-31), 3) := by decide +kernel
theorem dX12_buy_113 : decode cX12_buy 113 = .ok (.aload_n 0, 1) := by decide +kernel
theorem dX12_buy_114 : decode cX12_buy 114 = .ok (.invokevirtual 315, 3) := by decide +kernel
theorem dX12_buy_117 : decode cX12_buy 117 = .ok (.aload_n 0, 1) := by decide +kernel
theorem dX12_buy_118 : decode cX12_buy 118 = .ok (.iload_n 1, 1) := by decide +kernel
theorem dX12_buy_119 : decode cX12_buy 119 = .ok (.invokevirtual 324, 3) := by decide +kernel
theorem dX12_buy_122 : decode cX12_buy 122 = .ok (.aload_n 0, 1) := by decide +kernel
theorem dX12_buy_123 : decode cX12_buy 123 = .ok (.iload_n 1, 1) := by decide +kernel
theorem dX12_buy_124 : decode cX12_buy 124 = .ok (.invokevirtual 321, 3) := by decide +kernel
theorem dX12_buy_127 : decode cX12_buy 127 = .ok (.isub, 1) := by decide +kernel
theorem dX12_buy_128 : decode cX12_buy 128 = .ok (.istore 9, 2) := by decide +kernel
theorem dX12_buy_130 : decode cX12_buy 130 = .ok (.aload_n 0, 1) := by decide +kernel
theorem dX12_buy_131 : decode cX12_buy 131 = .ok (.invokevirtual 361, 3) := by decide +kernel
theorem dX12_buy_134 : decode cX12_buy 134 = .ok (.iload 4, 2) := by decide +kernel
theorem dX12_buy_136 : decode cX12_buy 136 = .ok (.ifCond .lt 27, 3) := by decide +kernel
theorem dX12_buy_139 : decode cX12_buy 139 = .ok (.iload 9, 2) := by decide +kernel
theorem dX12_buy_141 : decode cX12_buy 141 = .ok (.iload 5, 2) := by decide +kernel
theorem dX12_buy_143 : decode cX12_buy 143 = .ok (.if_icmp .lt 32, 3) := by decide +kernel
theorem dX12_buy_146 : decode cX12_buy 146 = .ok (.iload 9, 2) := by decide +kernel
theorem dX12_buy_148 : decode cX12_buy 148 = .ok (.iload 5, 2) := by decide +kernel
theorem dX12_buy_150 : decode cX12_buy 150 = .ok (.if_icmp .ne 13, 3) := by decide +kernel
theorem dX12_buy_153 : decode cX12_buy 153 = .ok (.iload 8, 2) := by decide +kernel
theorem dX12_buy_155 : decode cX12_buy 155 = .ok (.iload 6, 2) := by decide +kernel
theorem dX12_buy_157 : decode cX12_buy 157 = .ok (.if_icmp .lt 6, 3) := by decide +kernel
theorem dX12_buy_160 : decode cX12_buy 160 = .ok (.goto 15, 3) := by decide +kernel
theorem dX12_buy_163 : decode cX12_buy 163 = .ok (.iload 7, 2) := by decide +kernel
theorem dX12_buy_165 : decode cX12_buy 165 = .ok (.istore 4, 2) := by decide +kernel
theorem dX12_buy_167 : decode cX12_buy 167 = .ok (.iload 9, 2) := by decide +kernel
theorem dX12_buy_169 : decode cX12_buy 169 = .ok (.istore 5, 2) := by decide +kernel
theorem dX12_buy_171 : decode cX12_buy 171 = .ok (.iload 8, 2) := by decide +kernel
theorem dX12_buy_173 : decode cX12_buy 173 = .ok (.istore 6, 2) := by decide +kernel
theorem dX12_buy_175 : decode cX12_buy 175 = .ok (.iinc 7 1, 3) := by decide +kernel
theorem dX12_buy_178 : decode cX12_buy 178 = .ok (.goto (-136), 3) := by decide +kernel
theorem dX12_buy_181 : decode cX12_buy 181 = .ok (.iload_n 3, 1) := by decide +kernel
theorem dX12_buy_182 : decode cX12_buy 182 = .ok (.ifCond .ne 8, 3) := by decide +kernel
theorem dX12_buy_185 : decode cX12_buy 185 = .ok (.iload 5, 2) := by decide +kernel
theorem dX12_buy_187 : decode cX12_buy 187 = .ok (.goto 5, 3) := by decide +kernel
theorem dX12_buy_190 : decode cX12_buy 190 = .ok (.iload 4, 2) := by decide +kernel
theorem dX12_buy_192 : decode cX12_buy 192 = .ok (.ireturn, 1) := by decide +kernel
theorem ok_yX12_buy : yOk yX12_buy 3 := ⟨by decide +kernel, by decide +kernel, by decide +kernel⟩
def fX12_buy_79 (kB42 : St → Int32 → Int32 → Int32 → Int32 → Int32 → Int32 → Int32 → Option (Int32 × St)) (n : Nat) : Nat → St → Int32 → Int32 → Int32 → Int32 → Int32 → Int32 → Int32 → Int32 → Int32 → Option (Int32 × St)
  | 0, _, _, _, _, _, _, _, _, _, _ => none
  | k + 1, st, v1, v2, v3, v4, v5, v6, v7, v8, v9 => if gI st 0 1 ≤ v9 then ((fX12_findOwed n st).bind (fun r17 => (fX12_owedAll n r17 v1).bind (fun r19 => (fX12_owesAll n r17 v1).bind (fun r21 => bnd (r19 - r21) (fun x23 => (fX12_layOwners n r17).bind (fun r25 => if v4 < 0 then (bnd (v7 + (1 : Int32)) (fun x28 => kB42 r25 v1 v2 v3 v7 x23 v8 x28)) else (if x23 < v5 then (bnd (v7 + (1 : Int32)) (fun x31 => kB42 r25 v1 v2 v3 v4 v5 v6 x31)) else (if x23 = v5 then (if v8 < v6 then (bnd (v7 + (1 : Int32)) (fun x37 => kB42 r25 v1 v2 v3 v7 x23 v8 x37)) else (bnd (v7 + (1 : Int32)) (fun x39 => kB42 r25 v1 v2 v3 v4 v5 v6 x39))) else (bnd (v7 + (1 : Int32)) (fun x34 => kB42 r25 v1 v2 v3 v7 x23 v8 x34)))))))))) else (if (v7 >>> (v9 &&& 31)) &&& (1 : Int32) = (1 : Int32) then (gd (inB v9 8) (bnd (sI st 5 v9.toNatClampNeg v1) (fun st45 => bnd (v9 + (1 : Int32)) (fun x47 => fX12_buy_79 kB42 n k st45 v1 v2 v3 v4 v5 v6 v7 v8 x47)))) else (bnd (v9 + (1 : Int32)) (fun x42 => fX12_buy_79 kB42 n k st v1 v2 v3 v4 v5 v6 v7 v8 x42)))
set_option maxHeartbeats 4000000 in
theorem tX12_buy_79 {p : Program} {l : Launch} {e : Env} {s : State} {m : MethodId} {args : Array Value} {below : List Frame} {meth : Method} {c : Code} {X : WX} (C : Amb 43 X p s m args meth c cX12_buy 10 RX12) (hr : meth.sig.returnType = some .int) {R : Int32 × St} {n : Nat} {kB42 : St → Int32 → Int32 → Int32 → Int32 → Int32 → Int32 → Int32 → Option (Int32 × St)} (hB42 : ∀ (st : St) (v1 : Int32) (v2 : Int32) (v3 : Int32) (v4 : Int32) (v5 : Int32) (v6 : Int32) (v7 : Int32) (H : Heap) (locs : List Loc) (ls : Array Slot), Wd EM 43 X s.heap st H locs → lv_has ls 10 [(0, .ref (xq X 0)), (1, .int v1), (2, .int v2), (3, .int v3), (4, .int v4), (5, .int v5), (6, .int v6), (7, .int v7)] → kB42 st v1 v2 v3 v4 v5 v6 v7 = some R → W p l e { frames := 7, cells := 0, slots := 0, locals := 167 } s m args below meth c H locs 0 0 (QI EM 43 X R.1 R.2 below args s) (F0 m 42 ls [])) : ∀ (k : Nat) (st : St) (v1 : Int32) (v2 : Int32) (v3 : Int32) (v4 : Int32) (v5 : Int32) (v6 : Int32) (v7 : Int32) (v8 : Int32) (v9 : Int32) (H : Heap) (locs : List Loc) (ls : Array Slot), Wd EM 43 X s.heap st H locs → lv_has ls 10 [(0, .ref (xq X 0)), (1, .int v1), (2, .int v2), (3, .int v3), (4, .int v4), (5, .int v5), (6, .int v6), (7, .int v7), (8, .int v8), (9, .int v9)] → fX12_buy_79 kB42 n k st v1 v2 v3 v4 v5 v6 v7 v8 v9 = some R → W p l e { frames := 7, cells := 0, slots := 0, locals := 167 } s m args below meth c H locs 0 0 (QI EM 43 X R.1 R.2 below args s) (F0 m 79 ls []) := by
  obtain ⟨hx, hb, hml, hown, hts⟩ := id C.1
  intro k
  induction k with
  | zero => intro st v1 v2 v3 v4 v5 v6 v7 v8 v9 H locs ls  hw hl hf; exact absurd (show none = some R from hf) (fun z => by cases z)
  | succ k ih =>
    intro st v1 v2 v3 v4 v5 v6 v7 v8 v9 H locs ls  hw hl hf
    rw [fX12_buy_79] at hf
    refine lv_iload hx hb dX12_buy_79 (lv_at hl 9 rfl) ?_
    refine lv_aload_n hx hb dX12_buy_81 rfl (lv_at hl 0 rfl) ?_
    refine w_get (T := TX12) C hw (by decide) 1 kf_X12_144 (EM_0 X _ _) rfl inA12 (by decide) rfl dX12_buy_82 ?_
    refine lv_icmp_ge (tgt := 113) hx hb dX12_buy_85 (by decide) (fun c16 => ?_) (fun c16 => ?_)
    · replace hf := ite_t hf c16
      refine lv_aload_n hx hb dX12_buy_113 rfl (lv_at hl 0 rfl) ?_
      obtain ⟨r17, k18, hf⟩ := bd_some hf
      refine w_goV hw (w_runV (rest := []) C hw (zX12_findOwed _ _ n st r17 k18) (by decide) (EM_0 X _ _) rfl km_X12_315 ki_yX12_findOwed kv_X12_findOwed kz_X12 kc_X12_findOwed rfl ok_yX12_findOwed ⟨Nat.le_of_ble_eq_true rfl, Nat.le_of_ble_eq_true rfl⟩ rfl rfl rfl rfl hl.1 (Nat.le_of_ble_eq_true rfl) dX12_buy_114 ⟨Nat.zero_le _, Nat.zero_le _⟩) (fun H locs hw => ?_)
      refine lv_aload_n hx hb dX12_buy_117 rfl (lv_at hl 0 rfl) ?_
      refine lv_iload_n hx hb dX12_buy_118 rfl (lv_at hl 1 rfl) ?_
      obtain ⟨r19, k20, hf⟩ := bd_some hf
      refine w_goI hw (w_runV (rest := []) C hw (zX12_owedAll _ _ n r17 v1 r19 k20) (by decide) (EM_0 X _ _) rfl km_X12_324 ki_yX12_owedAll kv_X12_owedAll kz_X12 kc_X12_owedAll rfl ok_yX12_owedAll ⟨Nat.le_of_ble_eq_true rfl, Nat.le_of_ble_eq_true rfl⟩ rfl rfl rfl rfl hl.1 (Nat.le_of_ble_eq_true rfl) dX12_buy_119 ⟨Nat.zero_le _, Nat.zero_le _⟩) (fun H locs hw => ?_)
      refine lv_aload_n hx hb dX12_buy_122 rfl (lv_at hl 0 rfl) ?_
      refine lv_iload_n hx hb dX12_buy_123 rfl (lv_at hl 1 rfl) ?_
      obtain ⟨r21, k22, hf⟩ := bd_some hf
      refine w_goI hw (w_runV (rest := [.int r19]) C hw (zX12_owesAll _ _ n r17 v1 r21 k22) (by decide) (EM_0 X _ _) rfl km_X12_321 ki_yX12_owesAll kv_X12_owesAll kz_X12 kc_X12_owesAll rfl ok_yX12_owesAll ⟨Nat.le_of_ble_eq_true rfl, Nat.le_of_ble_eq_true rfl⟩ rfl rfl rfl rfl hl.1 (Nat.le_of_ble_eq_true rfl) dX12_buy_124 ⟨Nat.zero_le _, Nat.zero_le _⟩) (fun H locs hw => ?_)
      refine lv_isub hx hb dX12_buy_127 ?_
      refine lv_topi (fun x23 e24 => ?_)
      replace hf := bnd_nm hf e24
      refine lv_istore (lv' := [(9, .int x23), (0, .ref (xq X 0)), (1, .int v1), (2, .int v2), (3, .int v3), (4, .int v4), (5, .int v5), (6, .int v6), (7, .int v7), (8, .int v8)]) hx hb dX12_buy_128 hl (by decide) rfl (fun ls hl => ?_)
      refine lv_aload_n hx hb dX12_buy_130 rfl (lv_at hl 1 rfl) ?_
      obtain ⟨r25, k26, hf⟩ := bd_some hf
      refine w_goV hw (w_runV (rest := []) C hw (zX12_layOwners _ _ n r17 r25 k26) (by decide) (EM_0 X _ _) rfl km_X12_361 ki_yX12_layOwners kv_X12_layOwners kz_X12 kc_X12_layOwners rfl ok_yX12_layOwners ⟨Nat.le_of_ble_eq_true rfl, Nat.le_of_ble_eq_true rfl⟩ rfl rfl rfl rfl hl.1 (Nat.le_of_ble_eq_true rfl) dX12_buy_131 ⟨Nat.zero_le _, Nat.zero_le _⟩) (fun H locs hw => ?_)
      refine lv_iload hx hb dX12_buy_134 (lv_at hl 5 rfl) ?_
      refine lv_if_lt (tgt := 163) hx hb dX12_buy_136 (by decide) (fun c27 => ?_) (fun c27 => ?_)
      · replace hf := ite_t hf c27
        refine lv_iload hx hb dX12_buy_163 (lv_at hl 8 rfl) ?_
        refine lv_istore (lv' := [(4, .int v7), (9, .int x23), (0, .ref (xq X 0)), (1, .int v1), (2, .int v2), (3, .int v3), (5, .int v5), (6, .int v6), (7, .int v7), (8, .int v8)]) hx hb dX12_buy_165 hl (by decide) rfl (fun ls hl => ?_)
        refine lv_iload hx hb dX12_buy_167 (lv_at hl 1 rfl) ?_
        refine lv_istore (lv' := [(5, .int x23), (4, .int v7), (9, .int x23), (0, .ref (xq X 0)), (1, .int v1), (2, .int v2), (3, .int v3), (6, .int v6), (7, .int v7), (8, .int v8)]) hx hb dX12_buy_169 hl (by decide) rfl (fun ls hl => ?_)
        refine lv_iload hx hb dX12_buy_171 (lv_at hl 9 rfl) ?_
        refine lv_istore (lv' := [(6, .int v8), (5, .int x23), (4, .int v7), (9, .int x23), (0, .ref (xq X 0)), (1, .int v1), (2, .int v2), (3, .int v3), (7, .int v7), (8, .int v8)]) hx hb dX12_buy_173 hl (by decide) rfl (fun ls hl => ?_)
        obtain ⟨x28, e29⟩ : ∃ z : Int32, z = v7 + (1 : Int32) := ⟨_, rfl⟩
        replace hf := bnd_nm hf e29
        refine lv_iinc (v := x28) (lv' := [(7, .int x28), (6, .int v8), (5, .int x23), (4, .int v7), (9, .int x23), (0, .ref (xq X 0)), (1, .int v1), (2, .int v2), (3, .int v3), (8, .int v8)]) hx hb dX12_buy_175 hl (k := 8) rfl (by rw [e29]; rfl) (by decide) rfl (fun ls hl => ?_)
        refine lv_goto (tgt := 42) hx hb dX12_buy_178 (by decide) ?_
        exact hB42 r25 v1 v2 v3 v7 x23 v8 x28 _ _ _ hw (lv_sub hl [5, 6, 7, 8, 3, 2, 1, 0] rfl) hf
      · replace hf := ite_f hf c27
        refine lv_iload hx hb dX12_buy_139 (lv_at hl 0 rfl) ?_
        refine lv_iload hx hb dX12_buy_141 (lv_at hl 6 rfl) ?_
        refine lv_icmp_lt (tgt := 175) hx hb dX12_buy_143 (by decide) (fun c30 => ?_) (fun c30 => ?_)
        · replace hf := ite_t hf c30
          obtain ⟨x31, e32⟩ : ∃ z : Int32, z = v7 + (1 : Int32) := ⟨_, rfl⟩
          replace hf := bnd_nm hf e32
          refine lv_iinc (v := x31) (lv' := [(7, .int x31), (9, .int x23), (0, .ref (xq X 0)), (1, .int v1), (2, .int v2), (3, .int v3), (4, .int v4), (5, .int v5), (6, .int v6), (8, .int v8)]) hx hb dX12_buy_175 hl (k := 8) rfl (by rw [e32]; rfl) (by decide) rfl (fun ls hl => ?_)
          refine lv_goto (tgt := 42) hx hb dX12_buy_178 (by decide) ?_
          exact hB42 r25 v1 v2 v3 v4 v5 v6 x31 _ _ _ hw (lv_sub hl [2, 3, 4, 5, 6, 7, 8, 0] rfl) hf
        · replace hf := ite_f hf c30
          refine lv_iload hx hb dX12_buy_146 (lv_at hl 0 rfl) ?_
          refine lv_iload hx hb dX12_buy_148 (lv_at hl 6 rfl) ?_
          refine lv_icmp_ne (tgt := 163) hx hb dX12_buy_150 (by decide) (fun c33 => ?_) (fun c33 => ?_)
          · replace hf := ite_f hf c33
            refine lv_iload hx hb dX12_buy_163 (lv_at hl 8 rfl) ?_
            refine lv_istore (lv' := [(4, .int v7), (9, .int x23), (0, .ref (xq X 0)), (1, .int v1), (2, .int v2), (3, .int v3), (5, .int v5), (6, .int v6), (7, .int v7), (8, .int v8)]) hx hb dX12_buy_165 hl (by decide) rfl (fun ls hl => ?_)
            refine lv_iload hx hb dX12_buy_167 (lv_at hl 1 rfl) ?_
            refine lv_istore (lv' := [(5, .int x23), (4, .int v7), (9, .int x23), (0, .ref (xq X 0)), (1, .int v1), (2, .int v2), (3, .int v3), (6, .int v6), (7, .int v7), (8, .int v8)]) hx hb dX12_buy_169 hl (by decide) rfl (fun ls hl => ?_)
            refine lv_iload hx hb dX12_buy_171 (lv_at hl 9 rfl) ?_
            refine lv_istore (lv' := [(6, .int v8), (5, .int x23), (4, .int v7), (9, .int x23), (0, .ref (xq X 0)), (1, .int v1), (2, .int v2), (3, .int v3), (7, .int v7), (8, .int v8)]) hx hb dX12_buy_173 hl (by decide) rfl (fun ls hl => ?_)
            obtain ⟨x34, e35⟩ : ∃ z : Int32, z = v7 + (1 : Int32) := ⟨_, rfl⟩
            replace hf := bnd_nm hf e35
            refine lv_iinc (v := x34) (lv' := [(7, .int x34), (6, .int v8), (5, .int x23), (4, .int v7), (9, .int x23), (0, .ref (xq X 0)), (1, .int v1), (2, .int v2), (3, .int v3), (8, .int v8)]) hx hb dX12_buy_175 hl (k := 8) rfl (by rw [e35]; rfl) (by decide) rfl (fun ls hl => ?_)
            refine lv_goto (tgt := 42) hx hb dX12_buy_178 (by decide) ?_
            exact hB42 r25 v1 v2 v3 v7 x23 v8 x34 _ _ _ hw (lv_sub hl [5, 6, 7, 8, 3, 2, 1, 0] rfl) hf
          · replace hf := ite_t hf c33
            refine lv_iload hx hb dX12_buy_153 (lv_at hl 9 rfl) ?_
            refine lv_iload hx hb dX12_buy_155 (lv_at hl 7 rfl) ?_
            refine lv_icmp_lt (tgt := 163) hx hb dX12_buy_157 (by decide) (fun c36 => ?_) (fun c36 => ?_)
            · replace hf := ite_t hf c36
              refine lv_iload hx hb dX12_buy_163 (lv_at hl 8 rfl) ?_
              refine lv_istore (lv' := [(4, .int v7), (9, .int x23), (0, .ref (xq X 0)), (1, .int v1), (2, .int v2), (3, .int v3), (5, .int v5), (6, .int v6), (7, .int v7), (8, .int v8)]) hx hb dX12_buy_165 hl (by decide) rfl (fun ls hl => ?_)
              refine lv_iload hx hb dX12_buy_167 (lv_at hl 1 rfl) ?_
              refine lv_istore (lv' := [(5, .int x23), (4, .int v7), (9, .int x23), (0, .ref (xq X 0)), (1, .int v1), (2, .int v2), (3, .int v3), (6, .int v6), (7, .int v7), (8, .int v8)]) hx hb dX12_buy_169 hl (by decide) rfl (fun ls hl => ?_)
              refine lv_iload hx hb dX12_buy_171 (lv_at hl 9 rfl) ?_
              refine lv_istore (lv' := [(6, .int v8), (5, .int x23), (4, .int v7), (9, .int x23), (0, .ref (xq X 0)), (1, .int v1), (2, .int v2), (3, .int v3), (7, .int v7), (8, .int v8)]) hx hb dX12_buy_173 hl (by decide) rfl (fun ls hl => ?_)
              obtain ⟨x37, e38⟩ : ∃ z : Int32, z = v7 + (1 : Int32) := ⟨_, rfl⟩
              replace hf := bnd_nm hf e38
              refine lv_iinc (v := x37) (lv' := [(7, .int x37), (6, .int v8), (5, .int x23), (4, .int v7), (9, .int x23), (0, .ref (xq X 0)), (1, .int v1), (2, .int v2), (3, .int v3), (8, .int v8)]) hx hb dX12_buy_175 hl (k := 8) rfl (by rw [e38]; rfl) (by decide) rfl (fun ls hl => ?_)
              refine lv_goto (tgt := 42) hx hb dX12_buy_178 (by decide) ?_
              exact hB42 r25 v1 v2 v3 v7 x23 v8 x37 _ _ _ hw (lv_sub hl [5, 6, 7, 8, 3, 2, 1, 0] rfl) hf
            · replace hf := ite_f hf c36
              refine lv_goto (tgt := 175) hx hb dX12_buy_160 (by decide) ?_
              obtain ⟨x39, e40⟩ : ∃ z : Int32, z = v7 + (1 : Int32) := ⟨_, rfl⟩
              replace hf := bnd_nm hf e40
              refine lv_iinc (v := x39) (lv' := [(7, .int x39), (9, .int x23), (0, .ref (xq X 0)), (1, .int v1), (2, .int v2), (3, .int v3), (4, .int v4), (5, .int v5), (6, .int v6), (8, .int v8)]) hx hb dX12_buy_175 hl (k := 8) rfl (by rw [e40]; rfl) (by decide) rfl (fun ls hl => ?_)
              refine lv_goto (tgt := 42) hx hb dX12_buy_178 (by decide) ?_
              exact hB42 r25 v1 v2 v3 v4 v5 v6 x39 _ _ _ hw (lv_sub hl [2, 3, 4, 5, 6, 7, 8, 0] rfl) hf
    · replace hf := ite_f hf c16
      refine lv_iload hx hb dX12_buy_88 (lv_at hl 7 rfl) ?_
      refine lv_iload hx hb dX12_buy_90 (lv_at hl 9 rfl) ?_
      refine lv_ishr hx hb dX12_buy_92 ?_
      refine lv_iconst (v := 1) hx hb dX12_buy_93 (by decide) ?_
      refine lv_iand hx hb dX12_buy_94 ?_
      refine lv_iconst (v := 1) hx hb dX12_buy_95 (by decide) ?_
      refine lv_icmp_ne (tgt := 107) hx hb dX12_buy_96 (by decide) (fun c41 => ?_) (fun c41 => ?_)
      · replace hf := ite_f hf c41
        obtain ⟨x42, e43⟩ : ∃ z : Int32, z = v9 + (1 : Int32) := ⟨_, rfl⟩
        replace hf := bnd_nm hf e43
        refine lv_iinc (v := x42) (lv' := [(9, .int x42), (0, .ref (xq X 0)), (1, .int v1), (2, .int v2), (3, .int v3), (4, .int v4), (5, .int v5), (6, .int v6), (7, .int v7), (8, .int v8)]) hx hb dX12_buy_107 hl (k := 9) rfl (by rw [e43]; rfl) (by decide) rfl (fun ls hl => ?_)
        refine lv_goto (tgt := 79) hx hb dX12_buy_110 (by decide) ?_
        exact ih st v1 v2 v3 v4 v5 v6 v7 v8 x42 _ _ _ hw (lv_sub hl [1, 2, 3, 4, 5, 6, 7, 8, 9, 0] rfl) hf
      · replace hf := ite_t hf c41
        refine lv_aload_n hx hb dX12_buy_99 rfl (lv_at hl 0 rfl) ?_
        refine w_get (T := TX12) C hw (by decide) 6 kf_X12_22 (EM_0 X _ _) rfl inA12 (by decide) rfl dX12_buy_100 ?_
        refine lv_iload hx hb dX12_buy_103 (lv_at hl 9 rfl) ?_
        refine lv_iload_n hx hb dX12_buy_105 rfl (lv_at hl 1 rfl) ?_
        obtain ⟨h44, hf⟩ := gd_some hf
        obtain ⟨st45, es46⟩ : ∃ z : St, z = sI st 5 v9.toNatClampNeg v1 := ⟨_, rfl⟩
        replace hf := bnd_nm hf es46
        refine w_iast C hw (by decide) (fun f9 => EM_5 X f9 _) h44 rfl dX12_buy_106 (fun H locs hw => ?_)
        rw [← es46] at hw
        obtain ⟨x47, e48⟩ : ∃ z : Int32, z = v9 + (1 : Int32) := ⟨_, rfl⟩
        replace hf := bnd_nm hf e48
        refine lv_iinc (v := x47) (lv' := [(9, .int x47), (0, .ref (xq X 0)), (1, .int v1), (2, .int v2), (3, .int v3), (4, .int v4), (5, .int v5), (6, .int v6), (7, .int v7), (8, .int v8)]) hx hb dX12_buy_107 hl (k := 9) rfl (by rw [e48]; rfl) (by decide) rfl (fun ls hl => ?_)
        refine lv_goto (tgt := 79) hx hb dX12_buy_110 (by decide) ?_
        exact ih st45 v1 v2 v3 v4 v5 v6 v7 v8 x47 _ _ _ hw (lv_sub hl [1, 2, 3, 4, 5, 6, 7, 8, 9, 0] rfl) hf
def fX12_buy_42 (n : Nat) : Nat → St → Int32 → Int32 → Int32 → Int32 → Int32 → Int32 → Int32 → Option (Int32 × St)
  | 0, _, _, _, _, _, _, _, _ => none
  | k + 1, st, v1, v2, v3, v4, v5, v6, v7 => if (1 : Int32) <<< ((gI st 0 1) &&& 31) ≤ v7 then (if v3 = 0 then (some (v5, st)) else (some (v4, st))) else ((fX12_costOf n st v1 v7).bind (fun r8 => if r8 < 0 then (bnd (v7 + (1 : Int32)) (fun x11 => fX12_buy_42 n k st v1 v2 v3 v4 v5 v6 x11)) else (if r8 ≤ v2 then (fX12_buy_79 (fX12_buy_42 n k) n n st v1 v2 v3 v4 v5 v6 v7 r8 (0 : Int32)) else (bnd (v7 + (1 : Int32)) (fun x14 => fX12_buy_42 n k st v1 v2 v3 v4 v5 v6 x14)))))
set_option maxHeartbeats 4000000 in
theorem tX12_buy_42 {p : Program} {l : Launch} {e : Env} {s : State} {m : MethodId} {args : Array Value} {below : List Frame} {meth : Method} {c : Code} {X : WX} (C : Amb 43 X p s m args meth c cX12_buy 10 RX12) (hr : meth.sig.returnType = some .int) {R : Int32 × St} {n : Nat} : ∀ (k : Nat) (st : St) (v1 : Int32) (v2 : Int32) (v3 : Int32) (v4 : Int32) (v5 : Int32) (v6 : Int32) (v7 : Int32) (H : Heap) (locs : List Loc) (ls : Array Slot), Wd EM 43 X s.heap st H locs → lv_has ls 10 [(0, .ref (xq X 0)), (1, .int v1), (2, .int v2), (3, .int v3), (4, .int v4), (5, .int v5), (6, .int v6), (7, .int v7)] → fX12_buy_42 n k st v1 v2 v3 v4 v5 v6 v7 = some R → W p l e { frames := 7, cells := 0, slots := 0, locals := 167 } s m args below meth c H locs 0 0 (QI EM 43 X R.1 R.2 below args s) (F0 m 42 ls []) := by
  obtain ⟨hx, hb, hml, hown, hts⟩ := id C.1
  intro k
  induction k with
  | zero => intro st v1 v2 v3 v4 v5 v6 v7 H locs ls  hw hl hf; exact absurd (show none = some R from hf) (fun z => by cases z)
  | succ k ih =>
    intro st v1 v2 v3 v4 v5 v6 v7 H locs ls  hw hl hf
    rw [fX12_buy_42] at hf
    refine lv_iload hx hb dX12_buy_42 (lv_at hl 7 rfl) ?_
    refine lv_iconst (v := 1) hx hb dX12_buy_44 (by decide) ?_
    refine lv_aload_n hx hb dX12_buy_45 rfl (lv_at hl 0 rfl) ?_
    refine w_get (T := TX12) C hw (by decide) 1 kf_X12_144 (EM_0 X _ _) rfl inA12 (by decide) rfl dX12_buy_46 ?_
    refine lv_ishl hx hb dX12_buy_49 ?_
    refine lv_icmp_ge (tgt := 181) hx hb dX12_buy_50 (by decide) (fun c6 => ?_) (fun c6 => ?_)
    · replace hf := ite_t hf c6
      refine lv_iload_n hx hb dX12_buy_181 rfl (lv_at hl 3 rfl) ?_
      refine lv_if_ne (tgt := 190) hx hb dX12_buy_182 (by decide) (fun c7 => ?_) (fun c7 => ?_)
      · replace hf := ite_f hf c7
        refine lv_iload hx hb dX12_buy_190 (lv_at hl 4 rfl) ?_
        exact w_iret C hw hr (so2 hf).1 (so2 hf).2 dX12_buy_192
      · replace hf := ite_t hf c7
        refine lv_iload hx hb dX12_buy_185 (lv_at hl 5 rfl) ?_
        refine lv_goto (tgt := 192) hx hb dX12_buy_187 (by decide) ?_
        exact w_iret C hw hr (so2 hf).1 (so2 hf).2 dX12_buy_192
    · replace hf := ite_f hf c6
      refine lv_aload_n hx hb dX12_buy_53 rfl (lv_at hl 0 rfl) ?_
      refine lv_iload_n hx hb dX12_buy_54 rfl (lv_at hl 1 rfl) ?_
      refine lv_iload hx hb dX12_buy_55 (lv_at hl 7 rfl) ?_
      obtain ⟨r8, k9, hf⟩ := bd_some hf
      refine w_goI hw (w_runV (rest := []) C hw (zX12_costOf _ _ n st v1 v7 r8 k9) (by decide) (EM_0 X _ _) rfl km_X12_358 ki_yX12_costOf kv_X12_costOf kz_X12 kc_X12_costOf rfl ok_yX12_costOf ⟨Nat.le_of_ble_eq_true rfl, Nat.le_of_ble_eq_true rfl⟩ rfl rfl rfl rfl hl.1 (Nat.le_of_ble_eq_true rfl) dX12_buy_57 ⟨Nat.zero_le _, Nat.zero_le _⟩) (fun H locs hw => ?_)
      refine lv_istore (lv' := [(8, .int r8), (0, .ref (xq X 0)), (1, .int v1), (2, .int v2), (3, .int v3), (4, .int v4), (5, .int v5), (6, .int v6), (7, .int v7)]) hx hb dX12_buy_60 hl (by decide) rfl (fun ls hl => ?_)
      refine lv_iload hx hb dX12_buy_62 (lv_at hl 0 rfl) ?_
      refine lv_if_lt (tgt := 175) hx hb dX12_buy_64 (by decide) (fun c10 => ?_) (fun c10 => ?_)
      · replace hf := ite_t hf c10
        obtain ⟨x11, e12⟩ : ∃ z : Int32, z = v7 + (1 : Int32) := ⟨_, rfl⟩
        replace hf := bnd_nm hf e12
        refine lv_iinc (v := x11) (lv' := [(7, .int x11), (8, .int r8), (0, .ref (xq X 0)), (1, .int v1), (2, .int v2), (3, .int v3), (4, .int v4), (5, .int v5), (6, .int v6)]) hx hb dX12_buy_175 hl (k := 8) rfl (by rw [e12]; rfl) (by decide) rfl (fun ls hl => ?_)
        refine lv_goto (tgt := 42) hx hb dX12_buy_178 (by decide) ?_
        exact ih st v1 v2 v3 v4 v5 v6 x11 _ _ _ hw (lv_sub hl [2, 3, 4, 5, 6, 7, 8, 0] rfl) hf
      · replace hf := ite_f hf c10
        refine lv_iload hx hb dX12_buy_67 (lv_at hl 0 rfl) ?_
        refine lv_iload_n hx hb dX12_buy_69 rfl (lv_at hl 3 rfl) ?_
        refine lv_icmp_le (tgt := 76) hx hb dX12_buy_70 (by decide) (fun c13 => ?_) (fun c13 => ?_)
        · replace hf := ite_t hf c13
          refine lv_iconst (v := 0) hx hb dX12_buy_76 (by decide) ?_
          refine lv_istore (lv' := [(9, .int (0 : Int32)), (8, .int r8), (0, .ref (xq X 0)), (1, .int v1), (2, .int v2), (3, .int v3), (4, .int v4), (5, .int v5), (6, .int v6), (7, .int v7)]) hx hb dX12_buy_77 hl (by decide) rfl (fun ls hl => ?_)
          exact tX12_buy_79 C hr ih n st v1 v2 v3 v4 v5 v6 v7 r8 (0 : Int32) _ _ _ hw (lv_sub hl [2, 3, 4, 5, 6, 7, 8, 9, 1, 0] rfl) hf
        · replace hf := ite_f hf c13
          refine lv_goto (tgt := 175) hx hb dX12_buy_73 (by decide) ?_
          obtain ⟨x14, e15⟩ : ∃ z : Int32, z = v7 + (1 : Int32) := ⟨_, rfl⟩
          replace hf := bnd_nm hf e15
          refine lv_iinc (v := x14) (lv' := [(7, .int x14), (8, .int r8), (0, .ref (xq X 0)), (1, .int v1), (2, .int v2), (3, .int v3), (4, .int v4), (5, .int v5), (6, .int v6)]) hx hb dX12_buy_175 hl (k := 8) rfl (by rw [e15]; rfl) (by decide) rfl (fun ls hl => ?_)
          refine lv_goto (tgt := 42) hx hb dX12_buy_178 (by decide) ?_
          exact ih st v1 v2 v3 v4 v5 v6 x14 _ _ _ hw (lv_sub hl [2, 3, 4, 5, 6, 7, 8, 0] rfl) hf
def fX12_buy (n : Nat) (st : St) (a1 : Int32) (a2 : Int32) (a3 : Int32) : Option (Int32 × St) := if bI (fX12_isPerson a1) = 0 then (some ((-2000000000 : Int32), st)) else (if bI (fX12_isMinute a2) = 0 then (some ((-2000000000 : Int32), st)) else (if bI (fX12_in a3 (0 : Int32) (1 : Int32)) = 0 then (some ((-2000000000 : Int32), st)) else ((fX12_keepOwners n st).bind (fun r4 => fX12_buy_42 n n r4 a1 a2 a3 (-1 : Int32) (0 : Int32) (0 : Int32) (0 : Int32)))))
set_option maxHeartbeats 4000000 in
theorem zX12_buy (l : Launch) (X : WX) (n : Nat) (st : St) (a1 : Int32) (a2 : Int32) (a3 : Int32) (R : Int32 × St) (hf : fX12_buy n st a1 a2 a3 = some R) : CtI l yX12_buy cX12_buy 10 .int ({ frames := 7, cells := 0, slots := 0, locals := 167 }) EM 43 X [.ref (xq X 0), .int a1, .int a2, .int a3] st R.1 R.2 := by
  refine ct_in (own := RX12) (by decide +kernel) rfl (Nat.le_of_ble_eq_true rfl) (fun p e s m below meth c C hr hw ls hl => ?_)
  obtain ⟨hx, hb, hml, hown, hts⟩ := id C.1
  have hl : lv_has ls 10 [(0, .ref (xq X 0)), (1, .int a1), (2, .int a2), (3, .int a3)] := hl
  unfold fX12_buy at hf
  refine lv_iload_n hx hb dX12_buy_0 rfl (lv_at hl 1 rfl) ?_
  refine w_goI hw (w_runS (rest := []) C hw (zX12_isPerson _ _ st a1) km_X12_173 kt_yX12_isPerson kz_X12 kc_X12_isPerson ok_yX12_isPerson ⟨Nat.le_of_ble_eq_true rfl, Nat.le_of_ble_eq_true rfl⟩ rfl rfl rfl rfl hl.1 (Nat.le_of_ble_eq_true rfl) dX12_buy_1 ⟨Nat.zero_le _, Nat.zero_le _⟩) (fun H locs hw => ?_)
  refine lv_if_eq (tgt := 23) hx hb dX12_buy_4 (by decide) (fun c1 => ?_) (fun c1 => ?_)
  · replace hf := ite_t hf c1
    refine lv_ldc (v := -2000000000) hx hb hown (hts _ kn_X12_213) dX12_buy_23 ?_
    exact w_iret C hw hr (so2 hf).1 (so2 hf).2 dX12_buy_25
  · replace hf := ite_f hf c1
    refine lv_iload_n hx hb dX12_buy_7 rfl (lv_at hl 2 rfl) ?_
    refine w_goI hw (w_runS (rest := []) C hw (zX12_isMinute _ _ st a2) km_X12_161 kt_yX12_isMinute kz_X12 kc_X12_isMinute ok_yX12_isMinute ⟨Nat.le_of_ble_eq_true rfl, Nat.le_of_ble_eq_true rfl⟩ rfl rfl rfl rfl hl.1 (Nat.le_of_ble_eq_true rfl) dX12_buy_8 ⟨Nat.zero_le _, Nat.zero_le _⟩) (fun H locs hw => ?_)
    refine lv_if_eq (tgt := 23) hx hb dX12_buy_11 (by decide) (fun c2 => ?_) (fun c2 => ?_)
    · replace hf := ite_t hf c2
      refine lv_ldc (v := -2000000000) hx hb hown (hts _ kn_X12_213) dX12_buy_23 ?_
      exact w_iret C hw hr (so2 hf).1 (so2 hf).2 dX12_buy_25
    · replace hf := ite_f hf c2
      refine lv_iload_n hx hb dX12_buy_14 rfl (lv_at hl 3 rfl) ?_
      refine lv_iconst (v := 0) hx hb dX12_buy_15 (by decide) ?_
      refine lv_iconst (v := 1) hx hb dX12_buy_16 (by decide) ?_
      refine w_goI hw (w_runS (rest := []) C hw (zX12_in _ _ st a3 (0 : Int32) (1 : Int32)) km_X12_147 kt_yX12_in kz_X12 kc_X12_in ok_yX12_in ⟨Nat.le_of_ble_eq_true rfl, Nat.le_of_ble_eq_true rfl⟩ rfl rfl rfl rfl hl.1 (Nat.le_of_ble_eq_true rfl) dX12_buy_17 ⟨Nat.zero_le _, Nat.zero_le _⟩) (fun H locs hw => ?_)
      refine lv_if_ne (tgt := 26) hx hb dX12_buy_20 (by decide) (fun c3 => ?_) (fun c3 => ?_)
      · replace hf := ite_f hf c3
        refine lv_iconst (v := -1) hx hb dX12_buy_26 (by decide) ?_
        refine lv_istore (lv' := [(4, .int (-1 : Int32)), (0, .ref (xq X 0)), (1, .int a1), (2, .int a2), (3, .int a3)]) hx hb dX12_buy_27 hl (by decide) rfl (fun ls hl => ?_)
        refine lv_iconst (v := 0) hx hb dX12_buy_29 (by decide) ?_
        refine lv_istore (lv' := [(5, .int (0 : Int32)), (4, .int (-1 : Int32)), (0, .ref (xq X 0)), (1, .int a1), (2, .int a2), (3, .int a3)]) hx hb dX12_buy_30 hl (by decide) rfl (fun ls hl => ?_)
        refine lv_iconst (v := 0) hx hb dX12_buy_32 (by decide) ?_
        refine lv_istore (lv' := [(6, .int (0 : Int32)), (5, .int (0 : Int32)), (4, .int (-1 : Int32)), (0, .ref (xq X 0)), (1, .int a1), (2, .int a2), (3, .int a3)]) hx hb dX12_buy_33 hl (by decide) rfl (fun ls hl => ?_)
        refine lv_aload_n hx hb dX12_buy_35 rfl (lv_at hl 3 rfl) ?_
        obtain ⟨r4, k5, hf⟩ := bd_some hf
        refine w_goV hw (w_runV (rest := []) C hw (zX12_keepOwners _ _ n st r4 k5) (by decide) (EM_0 X _ _) rfl km_X12_355 ki_yX12_keepOwners kv_X12_keepOwners kz_X12 kc_X12_keepOwners rfl ok_yX12_keepOwners ⟨Nat.le_of_ble_eq_true rfl, Nat.le_of_ble_eq_true rfl⟩ rfl rfl rfl rfl hl.1 (Nat.le_of_ble_eq_true rfl) dX12_buy_36 ⟨Nat.zero_le _, Nat.zero_le _⟩) (fun H locs hw => ?_)
        refine lv_iconst (v := 0) hx hb dX12_buy_39 (by decide) ?_
        refine lv_istore (lv' := [(7, .int (0 : Int32)), (6, .int (0 : Int32)), (5, .int (0 : Int32)), (4, .int (-1 : Int32)), (0, .ref (xq X 0)), (1, .int a1), (2, .int a2), (3, .int a3)]) hx hb dX12_buy_40 hl (by decide) rfl (fun ls hl => ?_)
        exact tX12_buy_42 C hr n r4 a1 a2 a3 (-1 : Int32) (0 : Int32) (0 : Int32) (0 : Int32) _ _ _ hw (lv_sub hl [4, 5, 6, 7, 3, 2, 1, 0] rfl) hf
      · replace hf := ite_t hf c3
        refine lv_ldc (v := -2000000000) hx hb hown (hts _ kn_X12_213) dX12_buy_23 ?_
        exact w_iret C hw hr (so2 hf).1 (so2 hf).2 dX12_buy_25
theorem dX12_sellOff_0 : decode cX12_sellOff 0 = .ok (.iload_n 1, 1) := by decide +kernel
theorem dX12_sellOff_1 : decode cX12_sellOff 1 = .ok (.invokestatic 173, 3) := by decide +kernel
theorem dX12_sellOff_4 : decode cX12_sellOff 4 = .ok (.ifCond .eq 12, 3) := by decide +kernel
theorem dX12_sellOff_7 : decode cX12_sellOff 7 = .ok (.iload_n 2, 1) := by decide +kernel
theorem dX12_sellOff_8 : decode cX12_sellOff 8 = .ok (.iconst 0, 1) := by decide +kernel
theorem dX12_sellOff_9 : decode cX12_sellOff 9 = .ok (.iconst 1, 1) := by decide +kernel
theorem dX12_sellOff_10 : decode cX12_sellOff 10 = .ok (.invokestatic 147, 3) := by decide +kernel
theorem dX12_sellOff_13 : decode cX12_sellOff 13 = .ok (.ifCond .ne 5, 3) := by decide +kernel
theorem dX12_sellOff_16 : decode cX12_sellOff 16 = .ok (.iconst (-1), 1) := by decide +kernel
theorem dX12_sellOff_17 : decode cX12_sellOff 17 = .ok (.ireturn, 1) := by decide +kernel
theorem dX12_sellOff_18 : decode cX12_sellOff 18 = .ok (.iconst 0, 1) := by decide +kernel
theorem dX12_sellOff_19 : decode cX12_sellOff 19 = .ok (.istore_n 3, 1) := by decide +kernel
theorem dX12_sellOff_20 : decode cX12_sellOff 20 = .ok (.iconst 0, 1) := by decide +kernel
theorem dX12_sellOff_21 : decode cX12_sellOff 21 = .ok (.istore 4, 2) := by decide +kernel
theorem dX12_sellOff_23 : decode cX12_sellOff 23 = .ok (.iload 4, 2) := by decide +kernel
theorem dX12_sellOff_25 : decode cX12_sellOff 25 = .ok (.aload_n 0, 1) := by decide +kernel
theorem dX12_sellOff_26 : decode cX12_sellOff 26 = .ok (.getfield 144, 3) := by decide +kernel
theorem dX12_sellOff_29 : decode cX12_sellOff 29 = .ok (.if_icmp .ge 27, 3) := by decide +kernel
theorem dX12_sellOff_32 : decode cX12_sellOff 32 = .ok (.aload_n 0, 1) := by decide +kernel
theorem dX12_sellOff_33 : decode cX12_sellOff 33 = .ok (.getfield 22, 3) := by decide +kernel
theorem dX12_sellOff_36 : decode cX12_sellOff 36 = .ok (.iload 4, 2) := by decide +kernel
theorem dX12_sellOff_38 : decode cX12_sellOff 38 = .ok (.iaload, 1) := by decide +kernel
theorem dX12_sellOff_39 : decode cX12_sellOff 39 = .ok (.iload_n 1, 1) := by decide +kernel
theorem dX12_sellOff_40 : decode cX12_sellOff 40 = .ok (.if_icmp .ne 10, 3) := by decide +kernel
theorem dX12_sellOff_43 : decode cX12_sellOff 43 = .ok (.iload_n 3, 1) := by decide +kernel
theorem dX12_sellOff_44 : decode cX12_sellOff 44 = .ok (.iconst 1, 1) := by decide +kernel
theorem dX12_sellOff_45 : decode cX12_sellOff 45 = .ok (.iload 4, 2) := by decide +kernel
theorem dX12_sellOff_47 : decode cX12_sellOff 47 = .ok (.ishl, 1) := by decide +kernel
theorem dX12_sellOff_48 : decode cX12_sellOff 48 = .ok (.ior, 1) := by decide +kernel
theorem dX12_sellOff_49 : decode cX12_sellOff 49 = .ok (.istore_n 3, 1) := by decide +kernel
theorem dX12_sellOff_50 : decode cX12_sellOff 50 = .ok (.iinc 4 1, 3) := by decide +kernel
theorem dX12_sellOff_53 : decode cX12_sellOff 53 = .ok (.goto (-30), 3) := by decide +kernel
theorem dX12_sellOff_56 : decode cX12_sellOff 56 = .ok (.bipush (-2), 2) := by decide +kernel
theorem dX12_sellOff_58 : decode cX12_sellOff 58 = .ok (.istore 4, 2) := by decide +kernel
theorem dX12_sellOff_60 : decode cX12_sellOff 60 = .ok (.aload_n 0, 1) := by decide +kernel
theorem dX12_sellOff_61 : decode cX12_sellOff 61 = .ok (.invokevirtual 355, 3) := by decide +kernel
theorem dX12_sellOff_64 : decode cX12_sellOff 64 = .ok (.iconst 0, 1) := by decide +kernel
theorem dX12_sellOff_65 : decode cX12_sellOff 65 = .ok (.istore 5, 2) := by decide +kernel
theorem dX12_sellOff_67 : decode cX12_sellOff 67 = .ok (.iload 5, 2) := by decide +kernel
theorem dX12_sellOff_69 : decode cX12_sellOff 69 = .ok (.iconst 1, 1) := by decide +kernel
theorem dX12_sellOff_70 : decode cX12_sellOff 70 = .ok (.aload_n 0, 1) := by decide +kernel
theorem dX12_sellOff_71 : decode cX12_sellOff 71 = .ok (.getfield 144, 3) := by decide +kernel
theorem dX12_sellOff_74 : decode cX12_sellOff 74 = .ok (.ishl, 1) := by decide +kernel
theorem dX12_sellOff_75 : decode cX12_sellOff 75 = .ok (.if_icmp .ge 96, 3) := by decide +kernel
theorem dX12_sellOff_78 : decode cX12_sellOff 78 = .ok (.iload 5, 2) := by decide +kernel
theorem dX12_sellOff_80 : decode cX12_sellOff 80 = .ok (.iload_n 3, 1) := by decide +kernel
theorem dX12_sellOff_81 : decode cX12_sellOff 81 = .ok (.iconst (-1), 1) := by decide +kernel
theorem dX12_sellOff_82 : decode cX12_sellOff 82 = .ok (.ixor, 1) := by decide +kernel
theorem dX12_sellOff_83 : decode cX12_sellOff 83 = .ok (.iand, 1) := by decide +kernel
theorem dX12_sellOff_84 : decode cX12_sellOff 84 = .ok (.ifCond .ne 81, 3) := by decide +kernel
theorem dX12_sellOff_87 : decode cX12_sellOff 87 = .ok (.iload 4, 2) := by decide +kernel
theorem dX12_sellOff_89 : decode cX12_sellOff 89 = .ok (.ifCond .lt 19, 3) := by decide +kernel
theorem dX12_sellOff_92 : decode cX12_sellOff 92 = .ok (.iload 5, 2) := by decide +kernel
theorem dX12_sellOff_94 : decode cX12_sellOff 94 = .ok (.invokestatic 306, 3) := by decide +kernel
theorem dX12_sellOff_97 : decode cX12_sellOff 97 = .ok (.iload 4, 2) := by decide +kernel
theorem dX12_sellOff_99 : decode cX12_sellOff 99 = .ok (.invokestatic 306, 3) := by decide +kernel
theorem dX12_sellOff_102 : decode cX12_sellOff 102 = .ok (.if_icmp .lt 6, 3) := by decide +kernel
theorem dX12_sellOff_105 : decode cX12_sellOff 105 = .ok (.goto 60, 3) := by decide +kernel
theorem dX12_sellOff_108 : decode cX12_sellOff 108 = .ok (.iconst 0, 1) := by decide +kernel
theorem dX12_sellOff_109 : decode cX12_sellOff 109 = .ok (.istore 6, 2) := by decide +kernel
theorem dX12_sellOff_111 : decode cX12_sellOff 111 = .ok (.iload 6, 2) := by decide +kernel
theorem dX12_sellOff_113 : decode cX12_sellOff 113 = .ok (.aload_n 0, 1) := by decide +kernel
theorem dX12_sellOff_114 : decode cX12_sellOff 114 = .ok (.getfield 144, 3) := by decide +kernel
theorem dX12_sellOff_117 : decode cX12_sellOff 117 = .ok (.if_icmp .ge 28, 3) := by decide +kernel
theorem dX12_sellOff_120 : decode cX12_sellOff 120 = .ok (.iload 5, 2) := by decide +kernel
theorem dX12_sellOff_122 : decode cX12_sellOff 122 = .ok (.iload 6, 2) := by decide +kernel
theorem dX12_sellOff_124 : decode cX12_sellOff 124 = .ok (.ishr, 1) := by decide +kernel
theorem dX12_sellOff_125 : decode cX12_sellOff 125 = .ok (.iconst 1, 1) := by decide +kernel
theorem dX12_sellOff_126 : decode cX12_sellOff 126 = .ok (.iand, 1) := by decide +kernel
theorem dX12_sellOff_127 : decode cX12_sellOff 127 = .ok (.iconst 1, 1) := by decide +kernel
theorem dX12_sellOff_128 : decode cX12_sellOff 128 = .ok (.if_icmp .ne 11, 3) := by decide +kernel
theorem dX12_sellOff_131 : decode cX12_sellOff 131 = .ok (.aload_n 0, 1) := by decide +kernel
theorem dX12_sellOff_132 : decode cX12_sellOff 132 = .ok (.getfield 22, 3) := by decide +kernel
theorem dX12_sellOff_135 : decode cX12_sellOff 135 = .ok (.iload 6, 2) := by decide +kernel
theorem dX12_sellOff_137 : decode cX12_sellOff 137 = .ok (.iconst (-1), 1) := by decide +kernel
theorem dX12_sellOff_138 : decode cX12_sellOff 138 = .ok (.iastore, 1) := by decide +kernel
theorem dX12_sellOff_139 : decode cX12_sellOff 139 = .ok (.iinc 6 1, 3) := by decide +kernel
theorem dX12_sellOff_142 : decode cX12_sellOff 142 = .ok (.goto (-31), 3) := by decide +kernel
theorem dX12_sellOff_145 : decode cX12_sellOff 145 = .ok (.aload_n 0, 1) := by decide +kernel
theorem dX12_sellOff_146 : decode cX12_sellOff 146 = .ok (.invokevirtual 315, 3) := by decide +kernel
theorem dX12_sellOff_149 : decode cX12_sellOff 149 = .ok (.aload_n 0, 1) := by decide +kernel
theorem dX12_sellOff_150 : decode cX12_sellOff 150 = .ok (.iload_n 1, 1) := by decide +kernel
theorem dX12_sellOff_151 : decode cX12_sellOff 151 = .ok (.invokevirtual 321, 3) := by decide +kernel
theorem dX12_sellOff_154 : decode cX12_sellOff 154 = .ok (.ifCond .ne 7, 3) := by decide +kernel
theorem dX12_sellOff_157 : decode cX12_sellOff 157 = .ok (.iload 5, 2) := by decide +kernel
theorem dX12_sellOff_159 : decode cX12_sellOff 159 = .ok (.istore 4, 2) := by decide +kernel
theorem dX12_sellOff_161 : decode cX12_sellOff 161 = .ok (.aload_n 0, 1) := by decide +kernel
theorem dX12_sellOff_162 : decode cX12_sellOff 162 = .ok (.invokevirtual 361, 3) := by decide +kernel
theorem dX12_sellOff_165 : decode cX12_sellOff 165 = .ok (.iinc 5 1, 3) := by decide +kernel
theorem dX12_sellOff_168 : decode cX12_sellOff 168 = .ok (.goto (-101), 3) := by decide +kernel
theorem dX12_sellOff_171 : decode cX12_sellOff 171 = .ok (.iload 4, 2) := by decide +kernel
theorem dX12_sellOff_173 : decode cX12_sellOff 173 = .ok (.ifCond .ge 8, 3) := by decide +kernel
theorem dX12_sellOff_176 : decode cX12_sellOff 176 = .ok (.bipush (-2), 2) := by decide +kernel
theorem dX12_sellOff_178 : decode cX12_sellOff 178 = .ok (.goto 17, 3) := by decide +kernel
theorem dX12_sellOff_181 : decode cX12_sellOff 181 = .ok (.iload_n 2, 1) := by decide +kernel
theorem dX12_sellOff_182 : decode cX12_sellOff 182 = .ok (.ifCond .ne 11, 3) := by decide +kernel
theorem dX12_sellOff_185 : decode cX12_sellOff 185 = .ok (.iload 4, 2) := by decide +kernel
theorem dX12_sellOff_187 : decode cX12_sellOff 187 = .ok (.invokestatic 306, 3) := by decide +kernel
theorem dX12_sellOff_190 : decode cX12_sellOff 190 = .ok (.goto 5, 3) := by decide +kernel
theorem dX12_sellOff_193 : decode cX12_sellOff 193 = .ok (.iload 4, 2) := by decide +kernel
theorem dX12_sellOff_195 : decode cX12_sellOff 195 = .ok (.ireturn, 1) := by decide +kernel
theorem ok_yX12_sellOff : yOk yX12_sellOff 2 := ⟨by decide +kernel, by decide +kernel, by decide +kernel⟩
def fX12_sellOff_111 (kB67 : St → Int32 → Int32 → Int32 → Int32 → Int32 → Option (Int32 × St)) (n : Nat) : Nat → St → Int32 → Int32 → Int32 → Int32 → Int32 → Int32 → Option (Int32 × St)
  | 0, _, _, _, _, _, _, _ => none
  | k + 1, st, v1, v2, v3, v4, v5, v6 => if gI st 0 1 ≤ v6 then ((fX12_findOwed n st).bind (fun r31 => (fX12_owesAll n r31 v1).bind (fun r33 => if r33 = 0 then ((fX12_layOwners n r31).bind (fun r40 => bnd (v5 + (1 : Int32)) (fun x42 => kB67 r40 v1 v2 v3 v5 x42))) else ((fX12_layOwners n r31).bind (fun r36 => bnd (v5 + (1 : Int32)) (fun x38 => kB67 r36 v1 v2 v3 v4 x38)))))) else (if (v5 >>> (v6 &&& 31)) &&& (1 : Int32) = (1 : Int32) then (gd (inB v6 8) (bnd (sI st 5 v6.toNatClampNeg (-1 : Int32)) (fun st48 => bnd (v6 + (1 : Int32)) (fun x50 => fX12_sellOff_111 kB67 n k st48 v1 v2 v3 v4 v5 x50)))) else (bnd (v6 + (1 : Int32)) (fun x45 => fX12_sellOff_111 kB67 n k st v1 v2 v3 v4 v5 x45)))
set_option maxHeartbeats 4000000 in
theorem tX12_sellOff_111 {p : Program} {l : Launch} {e : Env} {s : State} {m : MethodId} {args : Array Value} {below : List Frame} {meth : Method} {c : Code} {X : WX} (C : Amb 43 X p s m args meth c cX12_sellOff 7 RX12) (hr : meth.sig.returnType = some .int) {R : Int32 × St} {n : Nat} {kB67 : St → Int32 → Int32 → Int32 → Int32 → Int32 → Option (Int32 × St)} (hB67 : ∀ (st : St) (v1 : Int32) (v2 : Int32) (v3 : Int32) (v4 : Int32) (v5 : Int32) (H : Heap) (locs : List Loc) (ls : Array Slot), Wd EM 43 X s.heap st H locs → lv_has ls 7 [(0, .ref (xq X 0)), (1, .int v1), (2, .int v2), (3, .int v3), (4, .int v4), (5, .int v5)] → kB67 st v1 v2 v3 v4 v5 = some R → W p l e { frames := 7, cells := 0, slots := 0, locals := 167 } s m args below meth c H locs 0 0 (QI EM 43 X R.1 R.2 below args s) (F0 m 67 ls [])) : ∀ (k : Nat) (st : St) (v1 : Int32) (v2 : Int32) (v3 : Int32) (v4 : Int32) (v5 : Int32) (v6 : Int32) (H : Heap) (locs : List Loc) (ls : Array Slot), Wd EM 43 X s.heap st H locs → lv_has ls 7 [(0, .ref (xq X 0)), (1, .int v1), (2, .int v2), (3, .int v3), (4, .int v4), (5, .int v5), (6, .int v6)] → fX12_sellOff_111 kB67 n k st v1 v2 v3 v4 v5 v6 = some R → W p l e { frames := 7, cells := 0, slots := 0, locals := 167 } s m args below meth c H locs 0 0 (QI EM 43 X R.1 R.2 below args s) (F0 m 111 ls []) := by
  obtain ⟨hx, hb, hml, hown, hts⟩ := id C.1
  intro k
  induction k with
  | zero => intro st v1 v2 v3 v4 v5 v6 H locs ls  hw hl hf; exact absurd (show none = some R from hf) (fun z => by cases z)
  | succ k ih =>
    intro st v1 v2 v3 v4 v5 v6 H locs ls  hw hl hf
    rw [fX12_sellOff_111] at hf
    refine lv_iload hx hb dX12_sellOff_111 (lv_at hl 6 rfl) ?_
    refine lv_aload_n hx hb dX12_sellOff_113 rfl (lv_at hl 0 rfl) ?_
    refine w_get (T := TX12) C hw (by decide) 1 kf_X12_144 (EM_0 X _ _) rfl inA12 (by decide) rfl dX12_sellOff_114 ?_
    refine lv_icmp_ge (tgt := 145) hx hb dX12_sellOff_117 (by decide) (fun c30 => ?_) (fun c30 => ?_)
    · replace hf := ite_t hf c30
      refine lv_aload_n hx hb dX12_sellOff_145 rfl (lv_at hl 0 rfl) ?_
      obtain ⟨r31, k32, hf⟩ := bd_some hf
      refine w_goV hw (w_runV (rest := []) C hw (zX12_findOwed _ _ n st r31 k32) (by decide) (EM_0 X _ _) rfl km_X12_315 ki_yX12_findOwed kv_X12_findOwed kz_X12 kc_X12_findOwed rfl ok_yX12_findOwed ⟨Nat.le_of_ble_eq_true rfl, Nat.le_of_ble_eq_true rfl⟩ rfl rfl rfl rfl hl.1 (Nat.le_of_ble_eq_true rfl) dX12_sellOff_146 ⟨Nat.zero_le _, Nat.zero_le _⟩) (fun H locs hw => ?_)
      refine lv_aload_n hx hb dX12_sellOff_149 rfl (lv_at hl 0 rfl) ?_
      refine lv_iload_n hx hb dX12_sellOff_150 rfl (lv_at hl 1 rfl) ?_
      obtain ⟨r33, k34, hf⟩ := bd_some hf
      refine w_goI hw (w_runV (rest := []) C hw (zX12_owesAll _ _ n r31 v1 r33 k34) (by decide) (EM_0 X _ _) rfl km_X12_321 ki_yX12_owesAll kv_X12_owesAll kz_X12 kc_X12_owesAll rfl ok_yX12_owesAll ⟨Nat.le_of_ble_eq_true rfl, Nat.le_of_ble_eq_true rfl⟩ rfl rfl rfl rfl hl.1 (Nat.le_of_ble_eq_true rfl) dX12_sellOff_151 ⟨Nat.zero_le _, Nat.zero_le _⟩) (fun H locs hw => ?_)
      refine lv_if_ne (tgt := 161) hx hb dX12_sellOff_154 (by decide) (fun c35 => ?_) (fun c35 => ?_)
      · replace hf := ite_f hf c35
        refine lv_aload_n hx hb dX12_sellOff_161 rfl (lv_at hl 0 rfl) ?_
        obtain ⟨r36, k37, hf⟩ := bd_some hf
        refine w_goV hw (w_runV (rest := []) C hw (zX12_layOwners _ _ n r31 r36 k37) (by decide) (EM_0 X _ _) rfl km_X12_361 ki_yX12_layOwners kv_X12_layOwners kz_X12 kc_X12_layOwners rfl ok_yX12_layOwners ⟨Nat.le_of_ble_eq_true rfl, Nat.le_of_ble_eq_true rfl⟩ rfl rfl rfl rfl hl.1 (Nat.le_of_ble_eq_true rfl) dX12_sellOff_162 ⟨Nat.zero_le _, Nat.zero_le _⟩) (fun H locs hw => ?_)
        obtain ⟨x38, e39⟩ : ∃ z : Int32, z = v5 + (1 : Int32) := ⟨_, rfl⟩
        replace hf := bnd_nm hf e39
        refine lv_iinc (v := x38) (lv' := [(5, .int x38), (0, .ref (xq X 0)), (1, .int v1), (2, .int v2), (3, .int v3), (4, .int v4), (6, .int v6)]) hx hb dX12_sellOff_165 hl (k := 5) rfl (by rw [e39]; rfl) (by decide) rfl (fun ls hl => ?_)
        refine lv_goto (tgt := 67) hx hb dX12_sellOff_168 (by decide) ?_
        exact hB67 r36 v1 v2 v3 v4 x38 _ _ _ hw (lv_sub hl [1, 2, 3, 4, 5, 0] rfl) hf
      · replace hf := ite_t hf c35
        refine lv_iload hx hb dX12_sellOff_157 (lv_at hl 5 rfl) ?_
        refine lv_istore (lv' := [(4, .int v5), (0, .ref (xq X 0)), (1, .int v1), (2, .int v2), (3, .int v3), (5, .int v5), (6, .int v6)]) hx hb dX12_sellOff_159 hl (by decide) rfl (fun ls hl => ?_)
        refine lv_aload_n hx hb dX12_sellOff_161 rfl (lv_at hl 1 rfl) ?_
        obtain ⟨r40, k41, hf⟩ := bd_some hf
        refine w_goV hw (w_runV (rest := []) C hw (zX12_layOwners _ _ n r31 r40 k41) (by decide) (EM_0 X _ _) rfl km_X12_361 ki_yX12_layOwners kv_X12_layOwners kz_X12 kc_X12_layOwners rfl ok_yX12_layOwners ⟨Nat.le_of_ble_eq_true rfl, Nat.le_of_ble_eq_true rfl⟩ rfl rfl rfl rfl hl.1 (Nat.le_of_ble_eq_true rfl) dX12_sellOff_162 ⟨Nat.zero_le _, Nat.zero_le _⟩) (fun H locs hw => ?_)
        obtain ⟨x42, e43⟩ : ∃ z : Int32, z = v5 + (1 : Int32) := ⟨_, rfl⟩
        replace hf := bnd_nm hf e43
        refine lv_iinc (v := x42) (lv' := [(5, .int x42), (4, .int v5), (0, .ref (xq X 0)), (1, .int v1), (2, .int v2), (3, .int v3), (6, .int v6)]) hx hb dX12_sellOff_165 hl (k := 5) rfl (by rw [e43]; rfl) (by decide) rfl (fun ls hl => ?_)
        refine lv_goto (tgt := 67) hx hb dX12_sellOff_168 (by decide) ?_
        exact hB67 r40 v1 v2 v3 v5 x42 _ _ _ hw (lv_sub hl [2, 3, 4, 5, 1, 0] rfl) hf
    · replace hf := ite_f hf c30
      refine lv_iload hx hb dX12_sellOff_120 (lv_at hl 5 rfl) ?_
      refine lv_iload hx hb dX12_sellOff_122 (lv_at hl 6 rfl) ?_
      refine lv_ishr hx hb dX12_sellOff_124 ?_
      refine lv_iconst (v := 1) hx hb dX12_sellOff_125 (by decide) ?_
      refine lv_iand hx hb dX12_sellOff_126 ?_
      refine lv_iconst (v := 1) hx hb dX12_sellOff_127 (by decide) ?_
      refine lv_icmp_ne (tgt := 139) hx hb dX12_sellOff_128 (by decide) (fun c44 => ?_) (fun c44 => ?_)
      · replace hf := ite_f hf c44
        obtain ⟨x45, e46⟩ : ∃ z : Int32, z = v6 + (1 : Int32) := ⟨_, rfl⟩
        replace hf := bnd_nm hf e46
        refine lv_iinc (v := x45) (lv' := [(6, .int x45), (0, .ref (xq X 0)), (1, .int v1), (2, .int v2), (3, .int v3), (4, .int v4), (5, .int v5)]) hx hb dX12_sellOff_139 hl (k := 6) rfl (by rw [e46]; rfl) (by decide) rfl (fun ls hl => ?_)
        refine lv_goto (tgt := 111) hx hb dX12_sellOff_142 (by decide) ?_
        exact ih st v1 v2 v3 v4 v5 x45 _ _ _ hw (lv_sub hl [1, 2, 3, 4, 5, 6, 0] rfl) hf
      · replace hf := ite_t hf c44
        refine lv_aload_n hx hb dX12_sellOff_131 rfl (lv_at hl 0 rfl) ?_
        refine w_get (T := TX12) C hw (by decide) 6 kf_X12_22 (EM_0 X _ _) rfl inA12 (by decide) rfl dX12_sellOff_132 ?_
        refine lv_iload hx hb dX12_sellOff_135 (lv_at hl 6 rfl) ?_
        refine lv_iconst (v := -1) hx hb dX12_sellOff_137 (by decide) ?_
        obtain ⟨h47, hf⟩ := gd_some hf
        obtain ⟨st48, es49⟩ : ∃ z : St, z = sI st 5 v6.toNatClampNeg (-1 : Int32) := ⟨_, rfl⟩
        replace hf := bnd_nm hf es49
        refine w_iast C hw (by decide) (fun f9 => EM_5 X f9 _) h47 rfl dX12_sellOff_138 (fun H locs hw => ?_)
        rw [← es49] at hw
        obtain ⟨x50, e51⟩ : ∃ z : Int32, z = v6 + (1 : Int32) := ⟨_, rfl⟩
        replace hf := bnd_nm hf e51
        refine lv_iinc (v := x50) (lv' := [(6, .int x50), (0, .ref (xq X 0)), (1, .int v1), (2, .int v2), (3, .int v3), (4, .int v4), (5, .int v5)]) hx hb dX12_sellOff_139 hl (k := 6) rfl (by rw [e51]; rfl) (by decide) rfl (fun ls hl => ?_)
        refine lv_goto (tgt := 111) hx hb dX12_sellOff_142 (by decide) ?_
        exact ih st48 v1 v2 v3 v4 v5 x50 _ _ _ hw (lv_sub hl [1, 2, 3, 4, 5, 6, 0] rfl) hf
def fX12_sellOff_108 (kB67 : St → Int32 → Int32 → Int32 → Int32 → Int32 → Option (Int32 × St)) (n : Nat) (st : St) (v1 : Int32) (v2 : Int32) (v3 : Int32) (v4 : Int32) (v5 : Int32) : Option (Int32 × St) := fX12_sellOff_111 kB67 n n st v1 v2 v3 v4 v5 (0 : Int32)
set_option maxHeartbeats 4000000 in
theorem tX12_sellOff_108 {p : Program} {l : Launch} {e : Env} {s : State} {m : MethodId} {args : Array Value} {below : List Frame} {meth : Method} {c : Code} {X : WX} (C : Amb 43 X p s m args meth c cX12_sellOff 7 RX12) (hr : meth.sig.returnType = some .int) {R : Int32 × St} {n : Nat} {kB67 : St → Int32 → Int32 → Int32 → Int32 → Int32 → Option (Int32 × St)} (hB67 : ∀ (st : St) (v1 : Int32) (v2 : Int32) (v3 : Int32) (v4 : Int32) (v5 : Int32) (H : Heap) (locs : List Loc) (ls : Array Slot), Wd EM 43 X s.heap st H locs → lv_has ls 7 [(0, .ref (xq X 0)), (1, .int v1), (2, .int v2), (3, .int v3), (4, .int v4), (5, .int v5)] → kB67 st v1 v2 v3 v4 v5 = some R → W p l e { frames := 7, cells := 0, slots := 0, locals := 167 } s m args below meth c H locs 0 0 (QI EM 43 X R.1 R.2 below args s) (F0 m 67 ls [])) : ∀ (st : St) (v1 : Int32) (v2 : Int32) (v3 : Int32) (v4 : Int32) (v5 : Int32) (H : Heap) (locs : List Loc) (ls : Array Slot), Wd EM 43 X s.heap st H locs → lv_has ls 7 [(0, .ref (xq X 0)), (1, .int v1), (2, .int v2), (3, .int v3), (4, .int v4), (5, .int v5)] → fX12_sellOff_108 kB67 n st v1 v2 v3 v4 v5 = some R → W p l e { frames := 7, cells := 0, slots := 0, locals := 167 } s m args below meth c H locs 0 0 (QI EM 43 X R.1 R.2 below args s) (F0 m 108 ls []) := by
  obtain ⟨hx, hb, hml, hown, hts⟩ := id C.1
  intro st v1 v2 v3 v4 v5 H locs ls  hw hl hf
  unfold fX12_sellOff_108 at hf
  refine lv_iconst (v := 0) hx hb dX12_sellOff_108 (by decide) ?_
  refine lv_istore (lv' := [(6, .int (0 : Int32)), (0, .ref (xq X 0)), (1, .int v1), (2, .int v2), (3, .int v3), (4, .int v4), (5, .int v5)]) hx hb dX12_sellOff_109 hl (by decide) rfl (fun ls hl => ?_)
  exact tX12_sellOff_111 C hr hB67 n st v1 v2 v3 v4 v5 (0 : Int32) _ _ _ hw (lv_sub hl [1, 2, 3, 4, 5, 6, 0] rfl) hf
def fX12_sellOff_67 (n : Nat) : Nat → St → Int32 → Int32 → Int32 → Int32 → Int32 → Option (Int32 × St)
  | 0, _, _, _, _, _, _ => none
  | k + 1, st, v1, v2, v3, v4, v5 => if (1 : Int32) <<< ((gI st 0 1) &&& 31) ≤ v5 then (if 0 ≤ v4 then (if v2 = 0 then ((fX12_bitsOf n v4).bind (fun r17 => some (r17, st))) else (some (v4, st))) else (some ((-2 : Int32), st))) else (if v5 &&& (v3 ^^^ (-1 : Int32)) = 0 then (if v4 < 0 then (fX12_sellOff_108 (fX12_sellOff_67 n k) n st v1 v2 v3 v4 v5) else ((fX12_bitsOf n v5).bind (fun r23 => (fX12_bitsOf n v4).bind (fun r25 => if r23 < r25 then (fX12_sellOff_108 (fX12_sellOff_67 n k) n st v1 v2 v3 v4 v5) else (bnd (v5 + (1 : Int32)) (fun x28 => fX12_sellOff_67 n k st v1 v2 v3 v4 x28)))))) else (bnd (v5 + (1 : Int32)) (fun x20 => fX12_sellOff_67 n k st v1 v2 v3 v4 x20)))
set_option maxHeartbeats 4000000 in
theorem tX12_sellOff_67 {p : Program} {l : Launch} {e : Env} {s : State} {m : MethodId} {args : Array Value} {below : List Frame} {meth : Method} {c : Code} {X : WX} (C : Amb 43 X p s m args meth c cX12_sellOff 7 RX12) (hr : meth.sig.returnType = some .int) {R : Int32 × St} {n : Nat} : ∀ (k : Nat) (st : St) (v1 : Int32) (v2 : Int32) (v3 : Int32) (v4 : Int32) (v5 : Int32) (H : Heap) (locs : List Loc) (ls : Array Slot), Wd EM 43 X s.heap st H locs → lv_has ls 7 [(0, .ref (xq X 0)), (1, .int v1), (2, .int v2), (3, .int v3), (4, .int v4), (5, .int v5)] → fX12_sellOff_67 n k st v1 v2 v3 v4 v5 = some R → W p l e { frames := 7, cells := 0, slots := 0, locals := 167 } s m args below meth c H locs 0 0 (QI EM 43 X R.1 R.2 below args s) (F0 m 67 ls []) := by
  obtain ⟨hx, hb, hml, hown, hts⟩ := id C.1
  intro k
  induction k with
  | zero => intro st v1 v2 v3 v4 v5 H locs ls  hw hl hf; exact absurd (show none = some R from hf) (fun z => by cases z)
  | succ k ih =>
    intro st v1 v2 v3 v4 v5 H locs ls  hw hl hf
    rw [fX12_sellOff_67] at hf
    refine lv_iload hx hb dX12_sellOff_67 (lv_at hl 5 rfl) ?_
    refine lv_iconst (v := 1) hx hb dX12_sellOff_69 (by decide) ?_
    refine lv_aload_n hx hb dX12_sellOff_70 rfl (lv_at hl 0 rfl) ?_
    refine w_get (T := TX12) C hw (by decide) 1 kf_X12_144 (EM_0 X _ _) rfl inA12 (by decide) rfl dX12_sellOff_71 ?_
    refine lv_ishl hx hb dX12_sellOff_74 ?_
    refine lv_icmp_ge (tgt := 171) hx hb dX12_sellOff_75 (by decide) (fun c14 => ?_) (fun c14 => ?_)
    · replace hf := ite_t hf c14
      refine lv_iload hx hb dX12_sellOff_171 (lv_at hl 4 rfl) ?_
      refine lv_if_ge (tgt := 181) hx hb dX12_sellOff_173 (by decide) (fun c15 => ?_) (fun c15 => ?_)
      · replace hf := ite_t hf c15
        refine lv_iload_n hx hb dX12_sellOff_181 rfl (lv_at hl 2 rfl) ?_
        refine lv_if_ne (tgt := 193) hx hb dX12_sellOff_182 (by decide) (fun c16 => ?_) (fun c16 => ?_)
        · replace hf := ite_f hf c16
          refine lv_iload hx hb dX12_sellOff_193 (lv_at hl 4 rfl) ?_
          exact w_iret C hw hr (so2 hf).1 (so2 hf).2 dX12_sellOff_195
        · replace hf := ite_t hf c16
          refine lv_iload hx hb dX12_sellOff_185 (lv_at hl 4 rfl) ?_
          obtain ⟨r17, k18, hf⟩ := bd_some hf
          refine w_goI hw (w_runS (rest := []) C hw (zX12_bitsOf _ _ n st v4 r17 k18) km_X12_306 kt_yX12_bitsOf kz_X12 kc_X12_bitsOf ok_yX12_bitsOf ⟨Nat.le_of_ble_eq_true rfl, Nat.le_of_ble_eq_true rfl⟩ rfl rfl rfl rfl hl.1 (Nat.le_of_ble_eq_true rfl) dX12_sellOff_187 ⟨Nat.zero_le _, Nat.zero_le _⟩) (fun H locs hw => ?_)
          refine lv_goto (tgt := 195) hx hb dX12_sellOff_190 (by decide) ?_
          exact w_iret C hw hr (so2 hf).1 (so2 hf).2 dX12_sellOff_195
      · replace hf := ite_f hf c15
        refine lv_bipush (v := -2) hx hb dX12_sellOff_176 (by decide) ?_
        refine lv_goto (tgt := 195) hx hb dX12_sellOff_178 (by decide) ?_
        exact w_iret C hw hr (so2 hf).1 (so2 hf).2 dX12_sellOff_195
    · replace hf := ite_f hf c14
      refine lv_iload hx hb dX12_sellOff_78 (lv_at hl 5 rfl) ?_
      refine lv_iload_n hx hb dX12_sellOff_80 rfl (lv_at hl 3 rfl) ?_
      refine lv_iconst (v := -1) hx hb dX12_sellOff_81 (by decide) ?_
      refine lv_ixor hx hb dX12_sellOff_82 ?_
      refine lv_iand hx hb dX12_sellOff_83 ?_
      refine lv_if_ne (tgt := 165) hx hb dX12_sellOff_84 (by decide) (fun c19 => ?_) (fun c19 => ?_)
      · replace hf := ite_f hf c19
        obtain ⟨x20, e21⟩ : ∃ z : Int32, z = v5 + (1 : Int32) := ⟨_, rfl⟩
        replace hf := bnd_nm hf e21
        refine lv_iinc (v := x20) (lv' := [(5, .int x20), (0, .ref (xq X 0)), (1, .int v1), (2, .int v2), (3, .int v3), (4, .int v4)]) hx hb dX12_sellOff_165 hl (k := 5) rfl (by rw [e21]; rfl) (by decide) rfl (fun ls hl => ?_)
        refine lv_goto (tgt := 67) hx hb dX12_sellOff_168 (by decide) ?_
        exact ih st v1 v2 v3 v4 x20 _ _ _ hw (lv_sub hl [1, 2, 3, 4, 5, 0] rfl) hf
      · replace hf := ite_t hf c19
        refine lv_iload hx hb dX12_sellOff_87 (lv_at hl 4 rfl) ?_
        refine lv_if_lt (tgt := 108) hx hb dX12_sellOff_89 (by decide) (fun c22 => ?_) (fun c22 => ?_)
        · replace hf := ite_t hf c22
          exact tX12_sellOff_108 C hr ih st v1 v2 v3 v4 v5 _ _ _ hw (lv_sub hl [0, 1, 2, 3, 4, 5] rfl) hf
        · replace hf := ite_f hf c22
          refine lv_iload hx hb dX12_sellOff_92 (lv_at hl 5 rfl) ?_
          obtain ⟨r23, k24, hf⟩ := bd_some hf
          refine w_goI hw (w_runS (rest := []) C hw (zX12_bitsOf _ _ n st v5 r23 k24) km_X12_306 kt_yX12_bitsOf kz_X12 kc_X12_bitsOf ok_yX12_bitsOf ⟨Nat.le_of_ble_eq_true rfl, Nat.le_of_ble_eq_true rfl⟩ rfl rfl rfl rfl hl.1 (Nat.le_of_ble_eq_true rfl) dX12_sellOff_94 ⟨Nat.zero_le _, Nat.zero_le _⟩) (fun H locs hw => ?_)
          refine lv_iload hx hb dX12_sellOff_97 (lv_at hl 4 rfl) ?_
          obtain ⟨r25, k26, hf⟩ := bd_some hf
          refine w_goI hw (w_runS (rest := [.int r23]) C hw (zX12_bitsOf _ _ n st v4 r25 k26) km_X12_306 kt_yX12_bitsOf kz_X12 kc_X12_bitsOf ok_yX12_bitsOf ⟨Nat.le_of_ble_eq_true rfl, Nat.le_of_ble_eq_true rfl⟩ rfl rfl rfl rfl hl.1 (Nat.le_of_ble_eq_true rfl) dX12_sellOff_99 ⟨Nat.zero_le _, Nat.zero_le _⟩) (fun H locs hw => ?_)
          refine lv_icmp_lt (tgt := 108) hx hb dX12_sellOff_102 (by decide) (fun c27 => ?_) (fun c27 => ?_)
          · replace hf := ite_t hf c27
            exact tX12_sellOff_108 C hr ih st v1 v2 v3 v4 v5 _ _ _ hw (lv_sub hl [0, 1, 2, 3, 4, 5] rfl) hf
          · replace hf := ite_f hf c27
            refine lv_goto (tgt := 165) hx hb dX12_sellOff_105 (by decide) ?_
            obtain ⟨x28, e29⟩ : ∃ z : Int32, z = v5 + (1 : Int32) := ⟨_, rfl⟩
            replace hf := bnd_nm hf e29
            refine lv_iinc (v := x28) (lv' := [(5, .int x28), (0, .ref (xq X 0)), (1, .int v1), (2, .int v2), (3, .int v3), (4, .int v4)]) hx hb dX12_sellOff_165 hl (k := 5) rfl (by rw [e29]; rfl) (by decide) rfl (fun ls hl => ?_)
            refine lv_goto (tgt := 67) hx hb dX12_sellOff_168 (by decide) ?_
            exact ih st v1 v2 v3 v4 x28 _ _ _ hw (lv_sub hl [1, 2, 3, 4, 5, 0] rfl) hf
def fX12_sellOff_23 (n : Nat) : Nat → St → Int32 → Int32 → Int32 → Int32 → Option (Int32 × St)
  | 0, _, _, _, _, _ => none
  | k + 1, st, v1, v2, v3, v4 => if gI st 0 1 ≤ v4 then ((fX12_keepOwners n st).bind (fun r4 => fX12_sellOff_67 n n r4 v1 v2 v3 (-2 : Int32) (0 : Int32))) else (gd (inB v4 8) (if gI st 5 v4.toNatClampNeg = v1 then (bnd (v3 ||| ((1 : Int32) <<< (v4 &&& 31))) (fun x10 => bnd (v4 + (1 : Int32)) (fun x12 => fX12_sellOff_23 n k st v1 v2 x10 x12))) else (bnd (v4 + (1 : Int32)) (fun x8 => fX12_sellOff_23 n k st v1 v2 v3 x8))))
set_option maxHeartbeats 4000000 in
theorem tX12_sellOff_23 {p : Program} {l : Launch} {e : Env} {s : State} {m : MethodId} {args : Array Value} {below : List Frame} {meth : Method} {c : Code} {X : WX} (C : Amb 43 X p s m args meth c cX12_sellOff 7 RX12) (hr : meth.sig.returnType = some .int) {R : Int32 × St} {n : Nat} : ∀ (k : Nat) (st : St) (v1 : Int32) (v2 : Int32) (v3 : Int32) (v4 : Int32) (H : Heap) (locs : List Loc) (ls : Array Slot), Wd EM 43 X s.heap st H locs → lv_has ls 7 [(0, .ref (xq X 0)), (1, .int v1), (2, .int v2), (3, .int v3), (4, .int v4)] → fX12_sellOff_23 n k st v1 v2 v3 v4 = some R → W p l e { frames := 7, cells := 0, slots := 0, locals := 167 } s m args below meth c H locs 0 0 (QI EM 43 X R.1 R.2 below args s) (F0 m 23 ls []) := by
  obtain ⟨hx, hb, hml, hown, hts⟩ := id C.1
  intro k
  induction k with
  | zero => intro st v1 v2 v3 v4 H locs ls  hw hl hf; exact absurd (show none = some R from hf) (fun z => by cases z)
  | succ k ih =>
    intro st v1 v2 v3 v4 H locs ls  hw hl hf
    rw [fX12_sellOff_23] at hf
    refine lv_iload hx hb dX12_sellOff_23 (lv_at hl 4 rfl) ?_
    refine lv_aload_n hx hb dX12_sellOff_25 rfl (lv_at hl 0 rfl) ?_
    refine w_get (T := TX12) C hw (by decide) 1 kf_X12_144 (EM_0 X _ _) rfl inA12 (by decide) rfl dX12_sellOff_26 ?_
    refine lv_icmp_ge (tgt := 56) hx hb dX12_sellOff_29 (by decide) (fun c3 => ?_) (fun c3 => ?_)
    · replace hf := ite_t hf c3
      refine lv_bipush (v := -2) hx hb dX12_sellOff_56 (by decide) ?_
      refine lv_istore (lv' := [(4, .int (-2 : Int32)), (0, .ref (xq X 0)), (1, .int v1), (2, .int v2), (3, .int v3)]) hx hb dX12_sellOff_58 hl (by decide) rfl (fun ls hl => ?_)
      refine lv_aload_n hx hb dX12_sellOff_60 rfl (lv_at hl 1 rfl) ?_
      obtain ⟨r4, k5, hf⟩ := bd_some hf
      refine w_goV hw (w_runV (rest := []) C hw (zX12_keepOwners _ _ n st r4 k5) (by decide) (EM_0 X _ _) rfl km_X12_355 ki_yX12_keepOwners kv_X12_keepOwners kz_X12 kc_X12_keepOwners rfl ok_yX12_keepOwners ⟨Nat.le_of_ble_eq_true rfl, Nat.le_of_ble_eq_true rfl⟩ rfl rfl rfl rfl hl.1 (Nat.le_of_ble_eq_true rfl) dX12_sellOff_61 ⟨Nat.zero_le _, Nat.zero_le _⟩) (fun H locs hw => ?_)
      refine lv_iconst (v := 0) hx hb dX12_sellOff_64 (by decide) ?_
      refine lv_istore (lv' := [(5, .int (0 : Int32)), (4, .int (-2 : Int32)), (0, .ref (xq X 0)), (1, .int v1), (2, .int v2), (3, .int v3)]) hx hb dX12_sellOff_65 hl (by decide) rfl (fun ls hl => ?_)
      exact tX12_sellOff_67 C hr n r4 v1 v2 v3 (-2 : Int32) (0 : Int32) _ _ _ hw (lv_sub hl [2, 3, 4, 5, 1, 0] rfl) hf
    · replace hf := ite_f hf c3
      refine lv_aload_n hx hb dX12_sellOff_32 rfl (lv_at hl 0 rfl) ?_
      refine w_get (T := TX12) C hw (by decide) 6 kf_X12_22 (EM_0 X _ _) rfl inA12 (by decide) rfl dX12_sellOff_33 ?_
      refine lv_iload hx hb dX12_sellOff_36 (lv_at hl 4 rfl) ?_
      obtain ⟨h6, hf⟩ := gd_some hf
      refine w_iald C hw (by decide) (EM_5 X _ _) h6 rfl dX12_sellOff_38 ?_
      refine lv_iload_n hx hb dX12_sellOff_39 rfl (lv_at hl 1 rfl) ?_
      refine lv_icmp_ne (tgt := 50) hx hb dX12_sellOff_40 (by decide) (fun c7 => ?_) (fun c7 => ?_)
      · replace hf := ite_f hf c7
        obtain ⟨x8, e9⟩ : ∃ z : Int32, z = v4 + (1 : Int32) := ⟨_, rfl⟩
        replace hf := bnd_nm hf e9
        refine lv_iinc (v := x8) (lv' := [(4, .int x8), (0, .ref (xq X 0)), (1, .int v1), (2, .int v2), (3, .int v3)]) hx hb dX12_sellOff_50 hl (k := 4) rfl (by rw [e9]; rfl) (by decide) rfl (fun ls hl => ?_)
        refine lv_goto (tgt := 23) hx hb dX12_sellOff_53 (by decide) ?_
        exact ih st v1 v2 v3 x8 _ _ _ hw (lv_sub hl [1, 2, 3, 4, 0] rfl) hf
      · replace hf := ite_t hf c7
        refine lv_iload_n hx hb dX12_sellOff_43 rfl (lv_at hl 3 rfl) ?_
        refine lv_iconst (v := 1) hx hb dX12_sellOff_44 (by decide) ?_
        refine lv_iload hx hb dX12_sellOff_45 (lv_at hl 4 rfl) ?_
        refine lv_ishl hx hb dX12_sellOff_47 ?_
        refine lv_ior hx hb dX12_sellOff_48 ?_
        refine lv_topi (fun x10 e11 => ?_)
        replace hf := bnd_nm hf e11
        refine lv_istore_n (lv' := [(3, .int x10), (0, .ref (xq X 0)), (1, .int v1), (2, .int v2), (4, .int v4)]) hx hb dX12_sellOff_49 rfl hl (by decide) rfl (fun ls hl => ?_)
        obtain ⟨x12, e13⟩ : ∃ z : Int32, z = v4 + (1 : Int32) := ⟨_, rfl⟩
        replace hf := bnd_nm hf e13
        refine lv_iinc (v := x12) (lv' := [(4, .int x12), (3, .int x10), (0, .ref (xq X 0)), (1, .int v1), (2, .int v2)]) hx hb dX12_sellOff_50 hl (k := 4) rfl (by rw [e13]; rfl) (by decide) rfl (fun ls hl => ?_)
        refine lv_goto (tgt := 23) hx hb dX12_sellOff_53 (by decide) ?_
        exact ih st v1 v2 x10 x12 _ _ _ hw (lv_sub hl [2, 3, 4, 1, 0] rfl) hf
def fX12_sellOff (n : Nat) (st : St) (a1 : Int32) (a2 : Int32) : Option (Int32 × St) := if bI (fX12_isPerson a1) = 0 then (some ((-1 : Int32), st)) else (if bI (fX12_in a2 (0 : Int32) (1 : Int32)) = 0 then (some ((-1 : Int32), st)) else (fX12_sellOff_23 n n st a1 a2 (0 : Int32) (0 : Int32)))
set_option maxHeartbeats 4000000 in
theorem zX12_sellOff (l : Launch) (X : WX) (n : Nat) (st : St) (a1 : Int32) (a2 : Int32) (R : Int32 × St) (hf : fX12_sellOff n st a1 a2 = some R) : CtI l yX12_sellOff cX12_sellOff 7 .int ({ frames := 7, cells := 0, slots := 0, locals := 167 }) EM 43 X [.ref (xq X 0), .int a1, .int a2] st R.1 R.2 := by
  refine ct_in (own := RX12) (by decide +kernel) rfl (Nat.le_of_ble_eq_true rfl) (fun p e s m below meth c C hr hw ls hl => ?_)
  obtain ⟨hx, hb, hml, hown, hts⟩ := id C.1
  have hl : lv_has ls 7 [(0, .ref (xq X 0)), (1, .int a1), (2, .int a2)] := hl
  unfold fX12_sellOff at hf
  refine lv_iload_n hx hb dX12_sellOff_0 rfl (lv_at hl 1 rfl) ?_
  refine w_goI hw (w_runS (rest := []) C hw (zX12_isPerson _ _ st a1) km_X12_173 kt_yX12_isPerson kz_X12 kc_X12_isPerson ok_yX12_isPerson ⟨Nat.le_of_ble_eq_true rfl, Nat.le_of_ble_eq_true rfl⟩ rfl rfl rfl rfl hl.1 (Nat.le_of_ble_eq_true rfl) dX12_sellOff_1 ⟨Nat.zero_le _, Nat.zero_le _⟩) (fun H locs hw => ?_)
  refine lv_if_eq (tgt := 16) hx hb dX12_sellOff_4 (by decide) (fun c1 => ?_) (fun c1 => ?_)
  · replace hf := ite_t hf c1
    refine lv_iconst (v := -1) hx hb dX12_sellOff_16 (by decide) ?_
    exact w_iret C hw hr (so2 hf).1 (so2 hf).2 dX12_sellOff_17
  · replace hf := ite_f hf c1
    refine lv_iload_n hx hb dX12_sellOff_7 rfl (lv_at hl 2 rfl) ?_
    refine lv_iconst (v := 0) hx hb dX12_sellOff_8 (by decide) ?_
    refine lv_iconst (v := 1) hx hb dX12_sellOff_9 (by decide) ?_
    refine w_goI hw (w_runS (rest := []) C hw (zX12_in _ _ st a2 (0 : Int32) (1 : Int32)) km_X12_147 kt_yX12_in kz_X12 kc_X12_in ok_yX12_in ⟨Nat.le_of_ble_eq_true rfl, Nat.le_of_ble_eq_true rfl⟩ rfl rfl rfl rfl hl.1 (Nat.le_of_ble_eq_true rfl) dX12_sellOff_10 ⟨Nat.zero_le _, Nat.zero_le _⟩) (fun H locs hw => ?_)
    refine lv_if_ne (tgt := 18) hx hb dX12_sellOff_13 (by decide) (fun c2 => ?_) (fun c2 => ?_)
    · replace hf := ite_f hf c2
      refine lv_iconst (v := 0) hx hb dX12_sellOff_18 (by decide) ?_
      refine lv_istore_n (lv' := [(3, .int (0 : Int32)), (0, .ref (xq X 0)), (1, .int a1), (2, .int a2)]) hx hb dX12_sellOff_19 rfl hl (by decide) rfl (fun ls hl => ?_)
      refine lv_iconst (v := 0) hx hb dX12_sellOff_20 (by decide) ?_
      refine lv_istore (lv' := [(4, .int (0 : Int32)), (3, .int (0 : Int32)), (0, .ref (xq X 0)), (1, .int a1), (2, .int a2)]) hx hb dX12_sellOff_21 hl (by decide) rfl (fun ls hl => ?_)
      exact tX12_sellOff_23 C hr n st a1 a2 (0 : Int32) (0 : Int32) _ _ _ hw (lv_sub hl [2, 3, 4, 1, 0] rfl) hf
    · replace hf := ite_t hf c2
      refine lv_iconst (v := -1) hx hb dX12_sellOff_16 (by decide) ?_
      exact w_iret C hw hr (so2 hf).1 (so2 hf).2 dX12_sellOff_17
theorem dX12_clearsOne_0 : decode cX12_clearsOne 0 = .ok (.iconst 0, 1) := by decide +kernel
theorem dX12_clearsOne_1 : decode cX12_clearsOne 1 = .ok (.istore_n 1, 1) := by decide +kernel
theorem dX12_clearsOne_2 : decode cX12_clearsOne 2 = .ok (.iload_n 1, 1) := by decide +kernel
theorem dX12_clearsOne_3 : decode cX12_clearsOne 3 = .ok (.bipush 6, 2) := by decide +kernel
theorem dX12_clearsOne_5 : decode cX12_clearsOne 5 = .ok (.if_icmp .ge 179, 3) := by decide +kernel
theorem dX12_clearsOne_8 : decode cX12_clearsOne 8 = .ok (.iconst 0, 1) := by decide +kernel
theorem dX12_clearsOne_9 : decode cX12_clearsOne 9 = .ok (.istore_n 2, 1) := by decide +kernel
theorem dX12_clearsOne_10 : decode cX12_clearsOne 10 = .ok (.iload_n 2, 1) := by decide +kernel
theorem dX12_clearsOne_11 : decode cX12_clearsOne 11 = .ok (.bipush 6, 2) := by decide +kernel
theorem dX12_clearsOne_13 : decode cX12_clearsOne 13 = .ok (.if_icmp .ge 165, 3) := by decide +kernel
theorem dX12_clearsOne_16 : decode cX12_clearsOne 16 = .ok (.iconst 0, 1) := by decide +kernel
theorem dX12_clearsOne_17 : decode cX12_clearsOne 17 = .ok (.istore_n 3, 1) := by decide +kernel
theorem dX12_clearsOne_18 : decode cX12_clearsOne 18 = .ok (.iload_n 3, 1) := by decide +kernel
theorem dX12_clearsOne_19 : decode cX12_clearsOne 19 = .ok (.bipush 6, 2) := by decide +kernel
theorem dX12_clearsOne_21 : decode cX12_clearsOne 21 = .ok (.if_icmp .ge 151, 3) := by decide +kernel
theorem dX12_clearsOne_24 : decode cX12_clearsOne 24 = .ok (.iload_n 1, 1) := by decide +kernel
theorem dX12_clearsOne_25 : decode cX12_clearsOne 25 = .ok (.iload_n 2, 1) := by decide +kernel
theorem dX12_clearsOne_26 : decode cX12_clearsOne 26 = .ok (.if_icmp .eq 140, 3) := by decide +kernel
theorem dX12_clearsOne_29 : decode cX12_clearsOne 29 = .ok (.iload_n 2, 1) := by decide +kernel
theorem dX12_clearsOne_30 : decode cX12_clearsOne 30 = .ok (.iload_n 3, 1) := by decide +kernel
theorem dX12_clearsOne_31 : decode cX12_clearsOne 31 = .ok (.if_icmp .eq 135, 3) := by decide +kernel
theorem dX12_clearsOne_34 : decode cX12_clearsOne 34 = .ok (.iload_n 3, 1) := by decide +kernel
theorem dX12_clearsOne_35 : decode cX12_clearsOne 35 = .ok (.iload_n 1, 1) := by decide +kernel
theorem dX12_clearsOne_36 : decode cX12_clearsOne 36 = .ok (.if_icmp .ne 6, 3) := by decide +kernel
theorem dX12_clearsOne_39 : decode cX12_clearsOne 39 = .ok (.goto 127, 3) := by decide +kernel
theorem dX12_clearsOne_42 : decode cX12_clearsOne 42 = .ok (.aload_n 0, 1) := by decide +kernel
theorem dX12_clearsOne_43 : decode cX12_clearsOne 43 = .ok (.getfield 90, 3) := by decide +kernel
theorem dX12_clearsOne_46 : decode cX12_clearsOne 46 = .ok (.bipush 6, 2) := by decide +kernel
theorem dX12_clearsOne_48 : decode cX12_clearsOne 48 = .ok (.iload_n 1, 1) := by decide +kernel
theorem dX12_clearsOne_49 : decode cX12_clearsOne 49 = .ok (.imul, 1) := by decide +kernel
theorem dX12_clearsOne_50 : decode cX12_clearsOne 50 = .ok (.iload_n 2, 1) := by decide +kernel
theorem dX12_clearsOne_51 : decode cX12_clearsOne 51 = .ok (.iadd, 1) := by decide +kernel
theorem dX12_clearsOne_52 : decode cX12_clearsOne 52 = .ok (.iaload, 1) := by decide +kernel
theorem dX12_clearsOne_53 : decode cX12_clearsOne 53 = .ok (.istore 4, 2) := by decide +kernel
theorem dX12_clearsOne_55 : decode cX12_clearsOne 55 = .ok (.aload_n 0, 1) := by decide +kernel
theorem dX12_clearsOne_56 : decode cX12_clearsOne 56 = .ok (.getfield 90, 3) := by decide +kernel
theorem dX12_clearsOne_59 : decode cX12_clearsOne 59 = .ok (.bipush 6, 2) := by decide +kernel
theorem dX12_clearsOne_61 : decode cX12_clearsOne 61 = .ok (.iload_n 2, 1) := by decide +kernel
theorem dX12_clearsOne_62 : decode cX12_clearsOne 62 = .ok (.imul, 1) := by decide +kernel
theorem dX12_clearsOne_63 : decode cX12_clearsOne 63 = .ok (.iload_n 3, 1) := by decide +kernel
theorem dX12_clearsOne_64 : decode cX12_clearsOne 64 = .ok (.iadd, 1) := by decide +kernel
theorem dX12_clearsOne_65 : decode cX12_clearsOne 65 = .ok (.iaload, 1) := by decide +kernel
theorem dX12_clearsOne_66 : decode cX12_clearsOne 66 = .ok (.istore 5, 2) := by decide +kernel
theorem dX12_clearsOne_68 : decode cX12_clearsOne 68 = .ok (.aload_n 0, 1) := by decide +kernel
theorem dX12_clearsOne_69 : decode cX12_clearsOne 69 = .ok (.getfield 90, 3) := by decide +kernel
theorem dX12_clearsOne_72 : decode cX12_clearsOne 72 = .ok (.bipush 6, 2) := by decide +kernel
theorem dX12_clearsOne_74 : decode cX12_clearsOne 74 = .ok (.iload_n 3, 1) := by decide +kernel
theorem dX12_clearsOne_75 : decode cX12_clearsOne 75 = .ok (.imul, 1) := by decide +kernel
theorem dX12_clearsOne_76 : decode cX12_clearsOne 76 = .ok (.iload_n 1, 1) := by decide +kernel
theorem dX12_clearsOne_77 : decode cX12_clearsOne 77 = .ok (.iadd, 1) := by decide +kernel
theorem dX12_clearsOne_78 : decode cX12_clearsOne 78 = .ok (.iaload, 1) := by decide +kernel
theorem dX12_clearsOne_79 : decode cX12_clearsOne 79 = .ok (.istore 6, 2) := by decide +kernel
theorem dX12_clearsOne_81 : decode cX12_clearsOne 81 = .ok (.iload 4, 2) := by decide +kernel
theorem dX12_clearsOne_83 : decode cX12_clearsOne 83 = .ok (.iload 5, 2) := by decide +kernel
theorem dX12_clearsOne_85 : decode cX12_clearsOne 85 = .ok (.if_icmp .ge 8, 3) := by decide +kernel
theorem dX12_clearsOne_88 : decode cX12_clearsOne 88 = .ok (.iload 4, 2) := by decide +kernel
theorem dX12_clearsOne_90 : decode cX12_clearsOne 90 = .ok (.goto 5, 3) := by decide +kernel
theorem dX12_clearsOne_93 : decode cX12_clearsOne 93 = .ok (.iload 5, 2) := by decide +kernel
theorem dX12_clearsOne_95 : decode cX12_clearsOne 95 = .ok (.istore 7, 2) := by decide +kernel
theorem dX12_clearsOne_97 : decode cX12_clearsOne 97 = .ok (.iload 6, 2) := by decide +kernel
theorem dX12_clearsOne_99 : decode cX12_clearsOne 99 = .ok (.iload 7, 2) := by decide +kernel
theorem dX12_clearsOne_101 : decode cX12_clearsOne 101 = .ok (.if_icmp .ge 7, 3) := by decide +kernel
theorem dX12_clearsOne_104 : decode cX12_clearsOne 104 = .ok (.iload 6, 2) := by decide +kernel
theorem dX12_clearsOne_106 : decode cX12_clearsOne 106 = .ok (.istore 7, 2) := by decide +kernel
theorem dX12_clearsOne_108 : decode cX12_clearsOne 108 = .ok (.iload 7, 2) := by decide +kernel
theorem dX12_clearsOne_110 : decode cX12_clearsOne 110 = .ok (.ifCond .gt 6, 3) := by decide +kernel
theorem dX12_clearsOne_113 : decode cX12_clearsOne 113 = .ok (.goto 53, 3) := by decide +kernel
theorem dX12_clearsOne_116 : decode cX12_clearsOne 116 = .ok (.aload_n 0, 1) := by decide +kernel
theorem dX12_clearsOne_117 : decode cX12_clearsOne 117 = .ok (.getfield 90, 3) := by decide +kernel
theorem dX12_clearsOne_120 : decode cX12_clearsOne 120 = .ok (.bipush 6, 2) := by decide +kernel
theorem dX12_clearsOne_122 : decode cX12_clearsOne 122 = .ok (.iload_n 1, 1) := by decide +kernel
theorem dX12_clearsOne_123 : decode cX12_clearsOne 123 = .ok (.imul, 1) := by decide +kernel
theorem dX12_clearsOne_124 : decode cX12_clearsOne 124 = .ok (.iload_n 2, 1) := by decide +kernel
theorem dX12_clearsOne_125 : decode cX12_clearsOne 125 = .ok (.iadd, 1) := by decide +kernel
theorem dX12_clearsOne_126 : decode cX12_clearsOne 126 = .ok (.dup2, 1) := by decide +kernel
theorem dX12_clearsOne_127 : decode cX12_clearsOne 127 = .ok (.iaload, 1) := by decide +kernel
theorem dX12_clearsOne_128 : decode cX12_clearsOne 128 = .ok (.iload 7, 2) := by decide +kernel
theorem dX12_clearsOne_130 : decode cX12_clearsOne 130 = .ok (.isub, 1) := by decide +kernel
theorem dX12_clearsOne_131 : decode cX12_clearsOne 131 = .ok (.iastore, 1) := by decide +kernel
theorem dX12_clearsOne_132 : decode cX12_clearsOne 132 = .ok (.aload_n 0, 1) := by decide +kernel
theorem dX12_clearsOne_133 : decode cX12_clearsOne 133 = .ok (.getfield 90, 3) := by decide +kernel
theorem dX12_clearsOne_136 : decode cX12_clearsOne 136 = .ok (.bipush 6, 2) := by decide +kernel
theorem dX12_clearsOne_138 : decode cX12_clearsOne 138 = .ok (.iload_n 2, 1) := by decide +kernel
theorem dX12_clearsOne_139 : decode cX12_clearsOne 139 = .ok (.imul, 1) := by decide +kernel
theorem dX12_clearsOne_140 : decode cX12_clearsOne 140 = .ok (.iload_n 3, 1) := by decide +kernel
theorem dX12_clearsOne_141 : decode cX12_clearsOne 141 = .ok (.iadd, 1) := by decide +kernel
theorem dX12_clearsOne_142 : decode cX12_clearsOne 142 = .ok (.dup2, 1) := by decide +kernel
theorem dX12_clearsOne_143 : decode cX12_clearsOne 143 = .ok (.iaload, 1) := by decide +kernel
theorem dX12_clearsOne_144 : decode cX12_clearsOne 144 = .ok (.iload 7, 2) := by decide +kernel
theorem dX12_clearsOne_146 : decode cX12_clearsOne 146 = .ok (.isub, 1) := by decide +kernel
theorem dX12_clearsOne_147 : decode cX12_clearsOne 147 = .ok (.iastore, 1) := by decide +kernel
theorem dX12_clearsOne_148 : decode cX12_clearsOne 148 = .ok (.aload_n 0, 1) := by decide +kernel
theorem dX12_clearsOne_149 : decode cX12_clearsOne 149 = .ok (.getfield 90, 3) := by decide +kernel
theorem dX12_clearsOne_152 : decode cX12_clearsOne 152 = .ok (.bipush 6, 2) := by decide +kernel
theorem dX12_clearsOne_154 : decode cX12_clearsOne 154 = .ok (.iload_n 3, 1) := by decide +kernel
theorem dX12_clearsOne_155 : decode cX12_clearsOne 155 = .ok (.imul, 1) := by decide +kernel
theorem dX12_clearsOne_156 : decode cX12_clearsOne 156 = .ok (.iload_n 1, 1) := by decide +kernel
theorem dX12_clearsOne_157 : decode cX12_clearsOne 157 = .ok (.iadd, 1) := by decide +kernel
theorem dX12_clearsOne_158 : decode cX12_clearsOne 158 = .ok (.dup2, 1) := by decide +kernel
theorem dX12_clearsOne_159 : decode cX12_clearsOne 159 = .ok (.iaload, 1) := by decide +kernel
theorem dX12_clearsOne_160 : decode cX12_clearsOne 160 = .ok (.iload 7, 2) := by decide +kernel
theorem dX12_clearsOne_162 : decode cX12_clearsOne 162 = .ok (.isub, 1) := by decide +kernel
theorem dX12_clearsOne_163 : decode cX12_clearsOne 163 = .ok (.iastore, 1) := by decide +kernel
theorem dX12_clearsOne_164 : decode cX12_clearsOne 164 = .ok (.iconst 1, 1) := by decide +kernel
theorem dX12_clearsOne_165 : decode cX12_clearsOne 165 = .ok (.ireturn, 1) := by decide +kernel
theorem dX12_clearsOne_166 : decode cX12_clearsOne 166 = .ok (.iinc 3 1, 3) := by decide +kernel
theorem dX12_clearsOne_169 : decode cX12_clearsOne 169 = .ok (.goto (-151), 3) := by decide +kernel
theorem dX12_clearsOne_172 : decode cX12_clearsOne 172 = .ok (.iinc 2 1, 3) := by decide +kernel
theorem dX12_clearsOne_175 : decode cX12_clearsOne 175 = .ok (.goto (-165), 3) := by decide +kernel
theorem dX12_clearsOne_178 : decode cX12_clearsOne 178 = .ok (.iinc 1 1, 3) := by decide +kernel
theorem dX12_clearsOne_181 : decode cX12_clearsOne 181 = .ok (.goto (-179), 3) := by decide +kernel
theorem dX12_clearsOne_184 : decode cX12_clearsOne 184 = .ok (.iconst 0, 1) := by decide +kernel
theorem dX12_clearsOne_185 : decode cX12_clearsOne 185 = .ok (.ireturn, 1) := by decide +kernel
theorem ok_yX12_clearsOne : yOk yX12_clearsOne 0 := ⟨by decide +kernel, by decide +kernel, by decide +kernel⟩
def fX12_clearsOne_108 (kB2 : St → Int32 → Option (Bool × St)) (kB10 : St → Int32 → Int32 → Option (Bool × St)) (kB18 : St → Int32 → Int32 → Int32 → Option (Bool × St)) (n : Nat) (st : St) (v1 : Int32) (v2 : Int32) (v3 : Int32) (v7 : Int32) : Option (Bool × St) := if 0 < v7 then (gd (inB (((6 : Int32) * v1) + v2) 36) (gd (inB (((6 : Int32) * v1) + v2) 36) (bnd (sI st 27 (((6 : Int32) * v1) + v2).toNatClampNeg ((gI st 27 (((6 : Int32) * v1) + v2).toNatClampNeg) - v7)) (fun st31 => gd (inB (((6 : Int32) * v2) + v3) 36) (gd (inB (((6 : Int32) * v2) + v3) 36) (bnd (sI st31 27 (((6 : Int32) * v2) + v3).toNatClampNeg ((gI st31 27 (((6 : Int32) * v2) + v3).toNatClampNeg) - v7)) (fun st35 => gd (inB (((6 : Int32) * v3) + v1) 36) (gd (inB (((6 : Int32) * v3) + v1) 36) (bnd (sI st35 27 (((6 : Int32) * v3) + v1).toNatClampNeg ((gI st35 27 (((6 : Int32) * v3) + v1).toNatClampNeg) - v7)) (fun st39 => some (true, st39))))))))))) else (bnd (v3 + (1 : Int32)) (fun x41 => kB18 st v1 v2 x41))
set_option maxHeartbeats 4000000 in
theorem tX12_clearsOne_108 {p : Program} {l : Launch} {e : Env} {s : State} {m : MethodId} {args : Array Value} {below : List Frame} {meth : Method} {c : Code} {X : WX} (C : Amb 43 X p s m args meth c cX12_clearsOne 8 RX12) (hr : meth.sig.returnType = some .boolean) {R : Bool × St} {n : Nat} {kB2 : St → Int32 → Option (Bool × St)} {kB10 : St → Int32 → Int32 → Option (Bool × St)} {kB18 : St → Int32 → Int32 → Int32 → Option (Bool × St)} (hB2 : ∀ (st : St) (v1 : Int32) (H : Heap) (locs : List Loc) (ls : Array Slot), Wd EM 43 X s.heap st H locs → lv_has ls 8 [(0, .ref (xq X 0)), (1, .int v1)] → kB2 st v1 = some R → W p l e { frames := 0, cells := 0, slots := 0, locals := 0 } s m args below meth c H locs 0 0 (QI EM 43 X (bI R.1) R.2 below args s) (F0 m 2 ls [])) (hB10 : ∀ (st : St) (v1 : Int32) (v2 : Int32) (H : Heap) (locs : List Loc) (ls : Array Slot), Wd EM 43 X s.heap st H locs → lv_has ls 8 [(0, .ref (xq X 0)), (1, .int v1), (2, .int v2)] → kB10 st v1 v2 = some R → W p l e { frames := 0, cells := 0, slots := 0, locals := 0 } s m args below meth c H locs 0 0 (QI EM 43 X (bI R.1) R.2 below args s) (F0 m 10 ls [])) (hB18 : ∀ (st : St) (v1 : Int32) (v2 : Int32) (v3 : Int32) (H : Heap) (locs : List Loc) (ls : Array Slot), Wd EM 43 X s.heap st H locs → lv_has ls 8 [(0, .ref (xq X 0)), (1, .int v1), (2, .int v2), (3, .int v3)] → kB18 st v1 v2 v3 = some R → W p l e { frames := 0, cells := 0, slots := 0, locals := 0 } s m args below meth c H locs 0 0 (QI EM 43 X (bI R.1) R.2 below args s) (F0 m 18 ls [])) : ∀ (st : St) (v1 : Int32) (v2 : Int32) (v3 : Int32) (v7 : Int32) (H : Heap) (locs : List Loc) (ls : Array Slot), Wd EM 43 X s.heap st H locs → lv_has ls 8 [(0, .ref (xq X 0)), (1, .int v1), (2, .int v2), (3, .int v3), (7, .int v7)] → fX12_clearsOne_108 kB2 kB10 kB18 n st v1 v2 v3 v7 = some R → W p l e { frames := 0, cells := 0, slots := 0, locals := 0 } s m args below meth c H locs 0 0 (QI EM 43 X (bI R.1) R.2 below args s) (F0 m 108 ls []) := by
  obtain ⟨hx, hb, hml, hown, hts⟩ := id C.1
  intro st v1 v2 v3 v7 H locs ls  hw hl hf
  unfold fX12_clearsOne_108 at hf
  refine lv_iload hx hb dX12_clearsOne_108 (lv_at hl 4 rfl) ?_
  refine lv_if_gt (tgt := 116) hx hb dX12_clearsOne_110 (by decide) (fun c28 => ?_) (fun c28 => ?_)
  · replace hf := ite_t hf c28
    refine lv_aload_n hx hb dX12_clearsOne_116 rfl (lv_at hl 0 rfl) ?_
    refine w_get (T := TX12) C hw (by decide) 38 kf_X12_90 (EM_0 X _ _) rfl inA12 (by decide) rfl dX12_clearsOne_117 ?_
    refine lv_bipush (v := 6) hx hb dX12_clearsOne_120 (by decide) ?_
    refine lv_iload_n hx hb dX12_clearsOne_122 rfl (lv_at hl 1 rfl) ?_
    refine lv_imul hx hb dX12_clearsOne_123 ?_
    refine lv_iload_n hx hb dX12_clearsOne_124 rfl (lv_at hl 2 rfl) ?_
    refine lv_iadd hx hb dX12_clearsOne_125 ?_
    refine lv_dup2_11 hx hb dX12_clearsOne_126 rfl rfl ?_
    obtain ⟨h29, hf⟩ := gd_some hf
    refine w_iald C hw (by decide) (EM_27 X _ _) h29 rfl dX12_clearsOne_127 ?_
    refine lv_iload hx hb dX12_clearsOne_128 (lv_at hl 4 rfl) ?_
    refine lv_isub hx hb dX12_clearsOne_130 ?_
    obtain ⟨h30, hf⟩ := gd_some hf
    obtain ⟨st31, es32⟩ : ∃ z : St, z = sI st 27 (((6 : Int32) * v1) + v2).toNatClampNeg ((gI st 27 (((6 : Int32) * v1) + v2).toNatClampNeg) - v7) := ⟨_, rfl⟩
    replace hf := bnd_nm hf es32
    refine w_iast C hw (by decide) (fun f9 => EM_27 X f9 _) h30 rfl dX12_clearsOne_131 (fun H locs hw => ?_)
    rw [← es32] at hw
    refine lv_aload_n hx hb dX12_clearsOne_132 rfl (lv_at hl 0 rfl) ?_
    refine w_get (T := TX12) C hw (by decide) 38 kf_X12_90 (EM_0 X _ _) rfl inA12 (by decide) rfl dX12_clearsOne_133 ?_
    refine lv_bipush (v := 6) hx hb dX12_clearsOne_136 (by decide) ?_
    refine lv_iload_n hx hb dX12_clearsOne_138 rfl (lv_at hl 2 rfl) ?_
    refine lv_imul hx hb dX12_clearsOne_139 ?_
    refine lv_iload_n hx hb dX12_clearsOne_140 rfl (lv_at hl 3 rfl) ?_
    refine lv_iadd hx hb dX12_clearsOne_141 ?_
    refine lv_dup2_11 hx hb dX12_clearsOne_142 rfl rfl ?_
    obtain ⟨h33, hf⟩ := gd_some hf
    refine w_iald C hw (by decide) (EM_27 X _ _) h33 rfl dX12_clearsOne_143 ?_
    refine lv_iload hx hb dX12_clearsOne_144 (lv_at hl 4 rfl) ?_
    refine lv_isub hx hb dX12_clearsOne_146 ?_
    obtain ⟨h34, hf⟩ := gd_some hf
    obtain ⟨st35, es36⟩ : ∃ z : St, z = sI st31 27 (((6 : Int32) * v2) + v3).toNatClampNeg ((gI st31 27 (((6 : Int32) * v2) + v3).toNatClampNeg) - v7) := ⟨_, rfl⟩
    replace hf := bnd_nm hf es36
    refine w_iast C hw (by decide) (fun f9 => EM_27 X f9 _) h34 rfl dX12_clearsOne_147 (fun H locs hw => ?_)
    rw [← es36] at hw
    refine lv_aload_n hx hb dX12_clearsOne_148 rfl (lv_at hl 0 rfl) ?_
    refine w_get (T := TX12) C hw (by decide) 38 kf_X12_90 (EM_0 X _ _) rfl inA12 (by decide) rfl dX12_clearsOne_149 ?_
    refine lv_bipush (v := 6) hx hb dX12_clearsOne_152 (by decide) ?_
    refine lv_iload_n hx hb dX12_clearsOne_154 rfl (lv_at hl 3 rfl) ?_
    refine lv_imul hx hb dX12_clearsOne_155 ?_
    refine lv_iload_n hx hb dX12_clearsOne_156 rfl (lv_at hl 1 rfl) ?_
    refine lv_iadd hx hb dX12_clearsOne_157 ?_
    refine lv_dup2_11 hx hb dX12_clearsOne_158 rfl rfl ?_
    obtain ⟨h37, hf⟩ := gd_some hf
    refine w_iald C hw (by decide) (EM_27 X _ _) h37 rfl dX12_clearsOne_159 ?_
    refine lv_iload hx hb dX12_clearsOne_160 (lv_at hl 4 rfl) ?_
    refine lv_isub hx hb dX12_clearsOne_162 ?_
    obtain ⟨h38, hf⟩ := gd_some hf
    obtain ⟨st39, es40⟩ : ∃ z : St, z = sI st35 27 (((6 : Int32) * v3) + v1).toNatClampNeg ((gI st35 27 (((6 : Int32) * v3) + v1).toNatClampNeg) - v7) := ⟨_, rfl⟩
    replace hf := bnd_nm hf es40
    refine w_iast C hw (by decide) (fun f9 => EM_27 X f9 _) h38 rfl dX12_clearsOne_163 (fun H locs hw => ?_)
    rw [← es40] at hw
    refine lv_iconst (v := 1) hx hb dX12_clearsOne_164 (by decide) ?_
    exact w_zret (b := true) C hw hr rfl (so2 hf).1 (so2 hf).2 dX12_clearsOne_165
  · replace hf := ite_f hf c28
    refine lv_goto (tgt := 166) hx hb dX12_clearsOne_113 (by decide) ?_
    obtain ⟨x41, e42⟩ : ∃ z : Int32, z = v3 + (1 : Int32) := ⟨_, rfl⟩
    replace hf := bnd_nm hf e42
    refine lv_iinc (v := x41) (lv' := [(3, .int x41), (0, .ref (xq X 0)), (1, .int v1), (2, .int v2), (7, .int v7)]) hx hb dX12_clearsOne_166 hl (k := 3) rfl (by rw [e42]; rfl) (by decide) rfl (fun ls hl => ?_)
    refine lv_goto (tgt := 18) hx hb dX12_clearsOne_169 (by decide) ?_
    exact hB18 st v1 v2 x41 _ _ _ hw (lv_sub hl [1, 2, 3, 0] rfl) hf
def fX12_clearsOne_95 (kB2 : St → Int32 → Option (Bool × St)) (kB10 : St → Int32 → Int32 → Option (Bool × St)) (kB18 : St → Int32 → Int32 → Int32 → Option (Bool × St)) (n : Nat) (st : St) (v1 : Int32) (v2 : Int32) (v3 : Int32) (v6 : Int32) (w0 : Int32) : Option (Bool × St) := if w0 ≤ v6 then (fX12_clearsOne_108 kB2 kB10 kB18 n st v1 v2 v3 w0) else (fX12_clearsOne_108 kB2 kB10 kB18 n st v1 v2 v3 v6)
set_option maxHeartbeats 4000000 in
theorem tX12_clearsOne_95 {p : Program} {l : Launch} {e : Env} {s : State} {m : MethodId} {args : Array Value} {below : List Frame} {meth : Method} {c : Code} {X : WX} (C : Amb 43 X p s m args meth c cX12_clearsOne 8 RX12) (hr : meth.sig.returnType = some .boolean) {R : Bool × St} {n : Nat} {kB2 : St → Int32 → Option (Bool × St)} {kB10 : St → Int32 → Int32 → Option (Bool × St)} {kB18 : St → Int32 → Int32 → Int32 → Option (Bool × St)} (hB2 : ∀ (st : St) (v1 : Int32) (H : Heap) (locs : List Loc) (ls : Array Slot), Wd EM 43 X s.heap st H locs → lv_has ls 8 [(0, .ref (xq X 0)), (1, .int v1)] → kB2 st v1 = some R → W p l e { frames := 0, cells := 0, slots := 0, locals := 0 } s m args below meth c H locs 0 0 (QI EM 43 X (bI R.1) R.2 below args s) (F0 m 2 ls [])) (hB10 : ∀ (st : St) (v1 : Int32) (v2 : Int32) (H : Heap) (locs : List Loc) (ls : Array Slot), Wd EM 43 X s.heap st H locs → lv_has ls 8 [(0, .ref (xq X 0)), (1, .int v1), (2, .int v2)] → kB10 st v1 v2 = some R → W p l e { frames := 0, cells := 0, slots := 0, locals := 0 } s m args below meth c H locs 0 0 (QI EM 43 X (bI R.1) R.2 below args s) (F0 m 10 ls [])) (hB18 : ∀ (st : St) (v1 : Int32) (v2 : Int32) (v3 : Int32) (H : Heap) (locs : List Loc) (ls : Array Slot), Wd EM 43 X s.heap st H locs → lv_has ls 8 [(0, .ref (xq X 0)), (1, .int v1), (2, .int v2), (3, .int v3)] → kB18 st v1 v2 v3 = some R → W p l e { frames := 0, cells := 0, slots := 0, locals := 0 } s m args below meth c H locs 0 0 (QI EM 43 X (bI R.1) R.2 below args s) (F0 m 18 ls [])) : ∀ (st : St) (v1 : Int32) (v2 : Int32) (v3 : Int32) (v6 : Int32) (w0 : Int32) (H : Heap) (locs : List Loc) (ls : Array Slot), Wd EM 43 X s.heap st H locs → lv_has ls 8 [(0, .ref (xq X 0)), (1, .int v1), (2, .int v2), (3, .int v3), (6, .int v6)] → fX12_clearsOne_95 kB2 kB10 kB18 n st v1 v2 v3 v6 w0 = some R → W p l e { frames := 0, cells := 0, slots := 0, locals := 0 } s m args below meth c H locs 0 0 (QI EM 43 X (bI R.1) R.2 below args s) (F0 m 95 ls [.int w0]) := by
  obtain ⟨hx, hb, hml, hown, hts⟩ := id C.1
  intro st v1 v2 v3 v6 w0 H locs ls  hw hl hf
  unfold fX12_clearsOne_95 at hf
  refine lv_istore (lv' := [(7, .int w0), (0, .ref (xq X 0)), (1, .int v1), (2, .int v2), (3, .int v3), (6, .int v6)]) hx hb dX12_clearsOne_95 hl (by decide) rfl (fun ls hl => ?_)
  refine lv_iload hx hb dX12_clearsOne_97 (lv_at hl 5 rfl) ?_
  refine lv_iload hx hb dX12_clearsOne_99 (lv_at hl 0 rfl) ?_
  refine lv_icmp_ge (tgt := 108) hx hb dX12_clearsOne_101 (by decide) (fun c27 => ?_) (fun c27 => ?_)
  · replace hf := ite_t hf c27
    exact tX12_clearsOne_108 C hr hB2 hB10 hB18 st v1 v2 v3 w0 _ _ _ hw (lv_sub hl [1, 2, 3, 4, 0] rfl) hf
  · replace hf := ite_f hf c27
    refine lv_iload hx hb dX12_clearsOne_104 (lv_at hl 5 rfl) ?_
    refine lv_istore (lv' := [(7, .int v6), (0, .ref (xq X 0)), (1, .int v1), (2, .int v2), (3, .int v3), (6, .int v6)]) hx hb dX12_clearsOne_106 hl (by decide) rfl (fun ls hl => ?_)
    exact tX12_clearsOne_108 C hr hB2 hB10 hB18 st v1 v2 v3 v6 _ _ _ hw (lv_sub hl [1, 2, 3, 4, 0] rfl) hf
def fX12_clearsOne_18 (kB2 : St → Int32 → Option (Bool × St)) (kB10 : St → Int32 → Int32 → Option (Bool × St)) (n : Nat) : Nat → St → Int32 → Int32 → Int32 → Option (Bool × St)
  | 0, _, _, _, _ => none
  | k + 1, st, v1, v2, v3 => if (6 : Int32) ≤ v3 then (bnd (v2 + (1 : Int32)) (fun x6 => kB10 st v1 x6)) else (if v1 = v2 then (bnd (v3 + (1 : Int32)) (fun x9 => fX12_clearsOne_18 kB2 kB10 n k st v1 v2 x9)) else (if v2 = v3 then (bnd (v3 + (1 : Int32)) (fun x12 => fX12_clearsOne_18 kB2 kB10 n k st v1 v2 x12)) else (if v3 = v1 then (bnd (v3 + (1 : Int32)) (fun x25 => fX12_clearsOne_18 kB2 kB10 n k st v1 v2 x25)) else (gd (inB (((6 : Int32) * v1) + v2) 36) (bnd (gI st 27 (((6 : Int32) * v1) + v2).toNatClampNeg) (fun x16 => gd (inB (((6 : Int32) * v2) + v3) 36) (bnd (gI st 27 (((6 : Int32) * v2) + v3).toNatClampNeg) (fun x19 => gd (inB (((6 : Int32) * v3) + v1) 36) (bnd (gI st 27 (((6 : Int32) * v3) + v1).toNatClampNeg) (fun x22 => if x19 ≤ x16 then (fX12_clearsOne_95 kB2 kB10 (fX12_clearsOne_18 kB2 kB10 n k) n st v1 v2 v3 x22 x19) else (fX12_clearsOne_95 kB2 kB10 (fX12_clearsOne_18 kB2 kB10 n k) n st v1 v2 v3 x22 x16)))))))))))
set_option maxHeartbeats 4000000 in
theorem tX12_clearsOne_18 {p : Program} {l : Launch} {e : Env} {s : State} {m : MethodId} {args : Array Value} {below : List Frame} {meth : Method} {c : Code} {X : WX} (C : Amb 43 X p s m args meth c cX12_clearsOne 8 RX12) (hr : meth.sig.returnType = some .boolean) {R : Bool × St} {n : Nat} {kB2 : St → Int32 → Option (Bool × St)} {kB10 : St → Int32 → Int32 → Option (Bool × St)} (hB2 : ∀ (st : St) (v1 : Int32) (H : Heap) (locs : List Loc) (ls : Array Slot), Wd EM 43 X s.heap st H locs → lv_has ls 8 [(0, .ref (xq X 0)), (1, .int v1)] → kB2 st v1 = some R → W p l e { frames := 0, cells := 0, slots := 0, locals := 0 } s m args below meth c H locs 0 0 (QI EM 43 X (bI R.1) R.2 below args s) (F0 m 2 ls [])) (hB10 : ∀ (st : St) (v1 : Int32) (v2 : Int32) (H : Heap) (locs : List Loc) (ls : Array Slot), Wd EM 43 X s.heap st H locs → lv_has ls 8 [(0, .ref (xq X 0)), (1, .int v1), (2, .int v2)] → kB10 st v1 v2 = some R → W p l e { frames := 0, cells := 0, slots := 0, locals := 0 } s m args below meth c H locs 0 0 (QI EM 43 X (bI R.1) R.2 below args s) (F0 m 10 ls [])) : ∀ (k : Nat) (st : St) (v1 : Int32) (v2 : Int32) (v3 : Int32) (H : Heap) (locs : List Loc) (ls : Array Slot), Wd EM 43 X s.heap st H locs → lv_has ls 8 [(0, .ref (xq X 0)), (1, .int v1), (2, .int v2), (3, .int v3)] → fX12_clearsOne_18 kB2 kB10 n k st v1 v2 v3 = some R → W p l e { frames := 0, cells := 0, slots := 0, locals := 0 } s m args below meth c H locs 0 0 (QI EM 43 X (bI R.1) R.2 below args s) (F0 m 18 ls []) := by
  obtain ⟨hx, hb, hml, hown, hts⟩ := id C.1
  intro k
  induction k with
  | zero => intro st v1 v2 v3 H locs ls  hw hl hf; exact absurd (show none = some R from hf) (fun z => by cases z)
  | succ k ih =>
    intro st v1 v2 v3 H locs ls  hw hl hf
    rw [fX12_clearsOne_18] at hf
    refine lv_iload_n hx hb dX12_clearsOne_18 rfl (lv_at hl 3 rfl) ?_
    refine lv_bipush (v := 6) hx hb dX12_clearsOne_19 (by decide) ?_
    refine lv_icmp_ge (tgt := 172) hx hb dX12_clearsOne_21 (by decide) (fun c5 => ?_) (fun c5 => ?_)
    · replace hf := ite_t hf c5
      obtain ⟨x6, e7⟩ : ∃ z : Int32, z = v2 + (1 : Int32) := ⟨_, rfl⟩
      replace hf := bnd_nm hf e7
      refine lv_iinc (v := x6) (lv' := [(2, .int x6), (0, .ref (xq X 0)), (1, .int v1), (3, .int v3)]) hx hb dX12_clearsOne_172 hl (k := 2) rfl (by rw [e7]; rfl) (by decide) rfl (fun ls hl => ?_)
      refine lv_goto (tgt := 10) hx hb dX12_clearsOne_175 (by decide) ?_
      exact hB10 st v1 x6 _ _ _ hw (lv_sub hl [1, 2, 0] rfl) hf
    · replace hf := ite_f hf c5
      refine lv_iload_n hx hb dX12_clearsOne_24 rfl (lv_at hl 1 rfl) ?_
      refine lv_iload_n hx hb dX12_clearsOne_25 rfl (lv_at hl 2 rfl) ?_
      refine lv_icmp_eq (tgt := 166) hx hb dX12_clearsOne_26 (by decide) (fun c8 => ?_) (fun c8 => ?_)
      · replace hf := ite_t hf c8
        obtain ⟨x9, e10⟩ : ∃ z : Int32, z = v3 + (1 : Int32) := ⟨_, rfl⟩
        replace hf := bnd_nm hf e10
        refine lv_iinc (v := x9) (lv' := [(3, .int x9), (0, .ref (xq X 0)), (1, .int v1), (2, .int v2)]) hx hb dX12_clearsOne_166 hl (k := 3) rfl (by rw [e10]; rfl) (by decide) rfl (fun ls hl => ?_)
        refine lv_goto (tgt := 18) hx hb dX12_clearsOne_169 (by decide) ?_
        exact ih st v1 v2 x9 _ _ _ hw (lv_sub hl [1, 2, 3, 0] rfl) hf
      · replace hf := ite_f hf c8
        refine lv_iload_n hx hb dX12_clearsOne_29 rfl (lv_at hl 2 rfl) ?_
        refine lv_iload_n hx hb dX12_clearsOne_30 rfl (lv_at hl 3 rfl) ?_
        refine lv_icmp_eq (tgt := 166) hx hb dX12_clearsOne_31 (by decide) (fun c11 => ?_) (fun c11 => ?_)
        · replace hf := ite_t hf c11
          obtain ⟨x12, e13⟩ : ∃ z : Int32, z = v3 + (1 : Int32) := ⟨_, rfl⟩
          replace hf := bnd_nm hf e13
          refine lv_iinc (v := x12) (lv' := [(3, .int x12), (0, .ref (xq X 0)), (1, .int v1), (2, .int v2)]) hx hb dX12_clearsOne_166 hl (k := 3) rfl (by rw [e13]; rfl) (by decide) rfl (fun ls hl => ?_)
          refine lv_goto (tgt := 18) hx hb dX12_clearsOne_169 (by decide) ?_
          exact ih st v1 v2 x12 _ _ _ hw (lv_sub hl [1, 2, 3, 0] rfl) hf
        · replace hf := ite_f hf c11
          refine lv_iload_n hx hb dX12_clearsOne_34 rfl (lv_at hl 3 rfl) ?_
          refine lv_iload_n hx hb dX12_clearsOne_35 rfl (lv_at hl 1 rfl) ?_
          refine lv_icmp_ne (tgt := 42) hx hb dX12_clearsOne_36 (by decide) (fun c14 => ?_) (fun c14 => ?_)
          · replace hf := ite_f hf c14
            refine lv_aload_n hx hb dX12_clearsOne_42 rfl (lv_at hl 0 rfl) ?_
            refine w_get (T := TX12) C hw (by decide) 38 kf_X12_90 (EM_0 X _ _) rfl inA12 (by decide) rfl dX12_clearsOne_43 ?_
            refine lv_bipush (v := 6) hx hb dX12_clearsOne_46 (by decide) ?_
            refine lv_iload_n hx hb dX12_clearsOne_48 rfl (lv_at hl 1 rfl) ?_
            refine lv_imul hx hb dX12_clearsOne_49 ?_
            refine lv_iload_n hx hb dX12_clearsOne_50 rfl (lv_at hl 2 rfl) ?_
            refine lv_iadd hx hb dX12_clearsOne_51 ?_
            obtain ⟨h15, hf⟩ := gd_some hf
            refine w_iald C hw (by decide) (EM_27 X _ _) h15 rfl dX12_clearsOne_52 ?_
            refine lv_topi (fun x16 e17 => ?_)
            replace hf := bnd_nm hf e17
            refine lv_istore (lv' := [(4, .int x16), (0, .ref (xq X 0)), (1, .int v1), (2, .int v2), (3, .int v3)]) hx hb dX12_clearsOne_53 hl (by decide) rfl (fun ls hl => ?_)
            refine lv_aload_n hx hb dX12_clearsOne_55 rfl (lv_at hl 1 rfl) ?_
            refine w_get (T := TX12) C hw (by decide) 38 kf_X12_90 (EM_0 X _ _) rfl inA12 (by decide) rfl dX12_clearsOne_56 ?_
            refine lv_bipush (v := 6) hx hb dX12_clearsOne_59 (by decide) ?_
            refine lv_iload_n hx hb dX12_clearsOne_61 rfl (lv_at hl 3 rfl) ?_
            refine lv_imul hx hb dX12_clearsOne_62 ?_
            refine lv_iload_n hx hb dX12_clearsOne_63 rfl (lv_at hl 4 rfl) ?_
            refine lv_iadd hx hb dX12_clearsOne_64 ?_
            obtain ⟨h18, hf⟩ := gd_some hf
            refine w_iald C hw (by decide) (EM_27 X _ _) h18 rfl dX12_clearsOne_65 ?_
            refine lv_topi (fun x19 e20 => ?_)
            replace hf := bnd_nm hf e20
            refine lv_istore (lv' := [(5, .int x19), (4, .int x16), (0, .ref (xq X 0)), (1, .int v1), (2, .int v2), (3, .int v3)]) hx hb dX12_clearsOne_66 hl (by decide) rfl (fun ls hl => ?_)
            refine lv_aload_n hx hb dX12_clearsOne_68 rfl (lv_at hl 2 rfl) ?_
            refine w_get (T := TX12) C hw (by decide) 38 kf_X12_90 (EM_0 X _ _) rfl inA12 (by decide) rfl dX12_clearsOne_69 ?_
            refine lv_bipush (v := 6) hx hb dX12_clearsOne_72 (by decide) ?_
            refine lv_iload_n hx hb dX12_clearsOne_74 rfl (lv_at hl 5 rfl) ?_
            refine lv_imul hx hb dX12_clearsOne_75 ?_
            refine lv_iload_n hx hb dX12_clearsOne_76 rfl (lv_at hl 3 rfl) ?_
            refine lv_iadd hx hb dX12_clearsOne_77 ?_
            obtain ⟨h21, hf⟩ := gd_some hf
            refine w_iald C hw (by decide) (EM_27 X _ _) h21 rfl dX12_clearsOne_78 ?_
            refine lv_topi (fun x22 e23 => ?_)
            replace hf := bnd_nm hf e23
            refine lv_istore (lv' := [(6, .int x22), (5, .int x19), (4, .int x16), (0, .ref (xq X 0)), (1, .int v1), (2, .int v2), (3, .int v3)]) hx hb dX12_clearsOne_79 hl (by decide) rfl (fun ls hl => ?_)
            refine lv_iload hx hb dX12_clearsOne_81 (lv_at hl 2 rfl) ?_
            refine lv_iload hx hb dX12_clearsOne_83 (lv_at hl 1 rfl) ?_
            refine lv_icmp_ge (tgt := 93) hx hb dX12_clearsOne_85 (by decide) (fun c24 => ?_) (fun c24 => ?_)
            · replace hf := ite_t hf c24
              refine lv_iload hx hb dX12_clearsOne_93 (lv_at hl 1 rfl) ?_
              exact tX12_clearsOne_95 C hr hB2 hB10 ih st v1 v2 v3 x22 x19 _ _ _ hw (lv_sub hl [3, 4, 5, 6, 0] rfl) hf
            · replace hf := ite_f hf c24
              refine lv_iload hx hb dX12_clearsOne_88 (lv_at hl 2 rfl) ?_
              refine lv_goto (tgt := 95) hx hb dX12_clearsOne_90 (by decide) ?_
              exact tX12_clearsOne_95 C hr hB2 hB10 ih st v1 v2 v3 x22 x16 _ _ _ hw (lv_sub hl [3, 4, 5, 6, 0] rfl) hf
          · replace hf := ite_t hf c14
            refine lv_goto (tgt := 166) hx hb dX12_clearsOne_39 (by decide) ?_
            obtain ⟨x25, e26⟩ : ∃ z : Int32, z = v3 + (1 : Int32) := ⟨_, rfl⟩
            replace hf := bnd_nm hf e26
            refine lv_iinc (v := x25) (lv' := [(3, .int x25), (0, .ref (xq X 0)), (1, .int v1), (2, .int v2)]) hx hb dX12_clearsOne_166 hl (k := 3) rfl (by rw [e26]; rfl) (by decide) rfl (fun ls hl => ?_)
            refine lv_goto (tgt := 18) hx hb dX12_clearsOne_169 (by decide) ?_
            exact ih st v1 v2 x25 _ _ _ hw (lv_sub hl [1, 2, 3, 0] rfl) hf
def fX12_clearsOne_10 (kB2 : St → Int32 → Option (Bool × St)) (n : Nat) : Nat → St → Int32 → Int32 → Option (Bool × St)
  | 0, _, _, _ => none
  | k + 1, st, v1, v2 => if (6 : Int32) ≤ v2 then (bnd (v1 + (1 : Int32)) (fun x3 => kB2 st x3)) else (fX12_clearsOne_18 kB2 (fX12_clearsOne_10 kB2 n k) n n st v1 v2 (0 : Int32))
set_option maxHeartbeats 4000000 in
theorem tX12_clearsOne_10 {p : Program} {l : Launch} {e : Env} {s : State} {m : MethodId} {args : Array Value} {below : List Frame} {meth : Method} {c : Code} {X : WX} (C : Amb 43 X p s m args meth c cX12_clearsOne 8 RX12) (hr : meth.sig.returnType = some .boolean) {R : Bool × St} {n : Nat} {kB2 : St → Int32 → Option (Bool × St)} (hB2 : ∀ (st : St) (v1 : Int32) (H : Heap) (locs : List Loc) (ls : Array Slot), Wd EM 43 X s.heap st H locs → lv_has ls 8 [(0, .ref (xq X 0)), (1, .int v1)] → kB2 st v1 = some R → W p l e { frames := 0, cells := 0, slots := 0, locals := 0 } s m args below meth c H locs 0 0 (QI EM 43 X (bI R.1) R.2 below args s) (F0 m 2 ls [])) : ∀ (k : Nat) (st : St) (v1 : Int32) (v2 : Int32) (H : Heap) (locs : List Loc) (ls : Array Slot), Wd EM 43 X s.heap st H locs → lv_has ls 8 [(0, .ref (xq X 0)), (1, .int v1), (2, .int v2)] → fX12_clearsOne_10 kB2 n k st v1 v2 = some R → W p l e { frames := 0, cells := 0, slots := 0, locals := 0 } s m args below meth c H locs 0 0 (QI EM 43 X (bI R.1) R.2 below args s) (F0 m 10 ls []) := by
  obtain ⟨hx, hb, hml, hown, hts⟩ := id C.1
  intro k
  induction k with
  | zero => intro st v1 v2 H locs ls  hw hl hf; exact absurd (show none = some R from hf) (fun z => by cases z)
  | succ k ih =>
    intro st v1 v2 H locs ls  hw hl hf
    rw [fX12_clearsOne_10] at hf
    refine lv_iload_n hx hb dX12_clearsOne_10 rfl (lv_at hl 2 rfl) ?_
    refine lv_bipush (v := 6) hx hb dX12_clearsOne_11 (by decide) ?_
    refine lv_icmp_ge (tgt := 178) hx hb dX12_clearsOne_13 (by decide) (fun c2 => ?_) (fun c2 => ?_)
    · replace hf := ite_t hf c2
      obtain ⟨x3, e4⟩ : ∃ z : Int32, z = v1 + (1 : Int32) := ⟨_, rfl⟩
      replace hf := bnd_nm hf e4
      refine lv_iinc (v := x3) (lv' := [(1, .int x3), (0, .ref (xq X 0)), (2, .int v2)]) hx hb dX12_clearsOne_178 hl (k := 1) rfl (by rw [e4]; rfl) (by decide) rfl (fun ls hl => ?_)
      refine lv_goto (tgt := 2) hx hb dX12_clearsOne_181 (by decide) ?_
      exact hB2 st x3 _ _ _ hw (lv_sub hl [1, 0] rfl) hf
    · replace hf := ite_f hf c2
      refine lv_iconst (v := 0) hx hb dX12_clearsOne_16 (by decide) ?_
      refine lv_istore_n (lv' := [(3, .int (0 : Int32)), (0, .ref (xq X 0)), (1, .int v1), (2, .int v2)]) hx hb dX12_clearsOne_17 rfl hl (by decide) rfl (fun ls hl => ?_)
      exact tX12_clearsOne_18 C hr hB2 ih n st v1 v2 (0 : Int32) _ _ _ hw (lv_sub hl [1, 2, 3, 0] rfl) hf
def fX12_clearsOne_2 (n : Nat) : Nat → St → Int32 → Option (Bool × St)
  | 0, _, _ => none
  | k + 1, st, v1 => if (6 : Int32) ≤ v1 then (some (false, st)) else (fX12_clearsOne_10 (fX12_clearsOne_2 n k) n n st v1 (0 : Int32))
set_option maxHeartbeats 4000000 in
theorem tX12_clearsOne_2 {p : Program} {l : Launch} {e : Env} {s : State} {m : MethodId} {args : Array Value} {below : List Frame} {meth : Method} {c : Code} {X : WX} (C : Amb 43 X p s m args meth c cX12_clearsOne 8 RX12) (hr : meth.sig.returnType = some .boolean) {R : Bool × St} {n : Nat} : ∀ (k : Nat) (st : St) (v1 : Int32) (H : Heap) (locs : List Loc) (ls : Array Slot), Wd EM 43 X s.heap st H locs → lv_has ls 8 [(0, .ref (xq X 0)), (1, .int v1)] → fX12_clearsOne_2 n k st v1 = some R → W p l e { frames := 0, cells := 0, slots := 0, locals := 0 } s m args below meth c H locs 0 0 (QI EM 43 X (bI R.1) R.2 below args s) (F0 m 2 ls []) := by
  obtain ⟨hx, hb, hml, hown, hts⟩ := id C.1
  intro k
  induction k with
  | zero => intro st v1 H locs ls  hw hl hf; exact absurd (show none = some R from hf) (fun z => by cases z)
  | succ k ih =>
    intro st v1 H locs ls  hw hl hf
    rw [fX12_clearsOne_2] at hf
    refine lv_iload_n hx hb dX12_clearsOne_2 rfl (lv_at hl 1 rfl) ?_
    refine lv_bipush (v := 6) hx hb dX12_clearsOne_3 (by decide) ?_
    refine lv_icmp_ge (tgt := 184) hx hb dX12_clearsOne_5 (by decide) (fun c1 => ?_) (fun c1 => ?_)
    · replace hf := ite_t hf c1
      refine lv_iconst (v := 0) hx hb dX12_clearsOne_184 (by decide) ?_
      exact w_zret (b := false) C hw hr rfl (so2 hf).1 (so2 hf).2 dX12_clearsOne_185
    · replace hf := ite_f hf c1
      refine lv_iconst (v := 0) hx hb dX12_clearsOne_8 (by decide) ?_
      refine lv_istore_n (lv' := [(2, .int (0 : Int32)), (0, .ref (xq X 0)), (1, .int v1)]) hx hb dX12_clearsOne_9 rfl hl (by decide) rfl (fun ls hl => ?_)
      exact tX12_clearsOne_10 C hr ih n st v1 (0 : Int32) _ _ _ hw (lv_sub hl [1, 2, 0] rfl) hf
def fX12_clearsOne (n : Nat) (st : St) : Option (Bool × St) := fX12_clearsOne_2 n n st (0 : Int32)
set_option maxHeartbeats 4000000 in
theorem zX12_clearsOne (l : Launch) (X : WX) (n : Nat) (st : St)  (R : Bool × St) (hf : fX12_clearsOne n st = some R) : CtI l yX12_clearsOne cX12_clearsOne 8 .boolean ({ frames := 0, cells := 0, slots := 0, locals := 0 }) EM 43 X [.ref (xq X 0)] st (bI R.1) R.2 := by
  refine ct_in (own := RX12) (by decide +kernel) rfl (Nat.le_of_ble_eq_true rfl) (fun p e s m below meth c C hr hw ls hl => ?_)
  obtain ⟨hx, hb, hml, hown, hts⟩ := id C.1
  have hl : lv_has ls 8 [(0, .ref (xq X 0))] := hl
  unfold fX12_clearsOne at hf
  refine lv_iconst (v := 0) hx hb dX12_clearsOne_0 (by decide) ?_
  refine lv_istore_n (lv' := [(1, .int (0 : Int32)), (0, .ref (xq X 0))]) hx hb dX12_clearsOne_1 rfl hl (by decide) rfl (fun ls hl => ?_)
  exact tX12_clearsOne_2 C hr n st (0 : Int32) _ _ _ hw (lv_sub hl [1, 0] rfl) hf
theorem dX12_cleared_0 : decode cX12_cleared 0 = .ok (.iload_n 2, 1) := by decide +kernel
theorem dX12_cleared_1 : decode cX12_cleared 1 = .ok (.iconst 0, 1) := by decide +kernel
theorem dX12_cleared_2 : decode cX12_cleared 2 = .ok (.iconst 2, 1) := by decide +kernel
theorem dX12_cleared_3 : decode cX12_cleared 3 = .ok (.invokestatic 147, 3) := by decide +kernel
theorem dX12_cleared_6 : decode cX12_cleared 6 = .ok (.ifCond .eq 33, 3) := by decide +kernel
theorem dX12_cleared_9 : decode cX12_cleared 9 = .ok (.iload_n 2, 1) := by decide +kernel
theorem dX12_cleared_10 : decode cX12_cleared 10 = .ok (.ifCond .ne 21, 3) := by decide +kernel
theorem dX12_cleared_13 : decode cX12_cleared 13 = .ok (.iload_n 1, 1) := by decide +kernel
theorem dX12_cleared_14 : decode cX12_cleared 14 = .ok (.invokestatic 318, 3) := by decide +kernel
theorem dX12_cleared_17 : decode cX12_cleared 17 = .ok (.ifCond .eq 22, 3) := by decide +kernel
theorem dX12_cleared_20 : decode cX12_cleared 20 = .ok (.iload_n 1, 1) := by decide +kernel
theorem dX12_cleared_21 : decode cX12_cleared 21 = .ok (.bipush 10, 2) := by decide +kernel
theorem dX12_cleared_23 : decode cX12_cleared 23 = .ok (.idiv, 1) := by decide +kernel
theorem dX12_cleared_24 : decode cX12_cleared 24 = .ok (.iload_n 1, 1) := by decide +kernel
theorem dX12_cleared_25 : decode cX12_cleared 25 = .ok (.bipush 10, 2) := by decide +kernel
theorem dX12_cleared_27 : decode cX12_cleared 27 = .ok (.irem, 1) := by decide +kernel
theorem dX12_cleared_28 : decode cX12_cleared 28 = .ok (.if_icmp .eq 11, 3) := by decide +kernel
theorem dX12_cleared_31 : decode cX12_cleared 31 = .ok (.iload_n 2, 1) := by decide +kernel
theorem dX12_cleared_32 : decode cX12_cleared 32 = .ok (.ifCond .le 10, 3) := by decide +kernel
theorem dX12_cleared_35 : decode cX12_cleared 35 = .ok (.iload_n 1, 1) := by decide +kernel
theorem dX12_cleared_36 : decode cX12_cleared 36 = .ok (.ifCond .eq 6, 3) := by decide +kernel
theorem dX12_cleared_39 : decode cX12_cleared 39 = .ok (.ldc 213, 2) := by decide +kernel
theorem dX12_cleared_41 : decode cX12_cleared 41 = .ok (.ireturn, 1) := by decide +kernel
theorem dX12_cleared_42 : decode cX12_cleared 42 = .ok (.aload_n 0, 1) := by decide +kernel
theorem dX12_cleared_43 : decode cX12_cleared 43 = .ok (.invokevirtual 315, 3) := by decide +kernel
theorem dX12_cleared_46 : decode cX12_cleared 46 = .ok (.iload_n 2, 1) := by decide +kernel
theorem dX12_cleared_47 : decode cX12_cleared 47 = .ok (.ifCond .ne 35, 3) := by decide +kernel
theorem dX12_cleared_50 : decode cX12_cleared 50 = .ok (.iconst 1, 1) := by decide +kernel
theorem dX12_cleared_51 : decode cX12_cleared 51 = .ok (.istore_n 3, 1) := by decide +kernel
theorem dX12_cleared_52 : decode cX12_cleared 52 = .ok (.iload_n 3, 1) := by decide +kernel
theorem dX12_cleared_53 : decode cX12_cleared 53 = .ok (.ifCond .eq 11, 3) := by decide +kernel
theorem dX12_cleared_56 : decode cX12_cleared 56 = .ok (.aload_n 0, 1) := by decide +kernel
theorem dX12_cleared_57 : decode cX12_cleared 57 = .ok (.invokevirtual 364, 3) := by decide +kernel
theorem dX12_cleared_60 : decode cX12_cleared 60 = .ok (.istore_n 3, 1) := by decide +kernel
theorem dX12_cleared_61 : decode cX12_cleared 61 = .ok (.goto (-9), 3) := by decide +kernel
theorem dX12_cleared_64 : decode cX12_cleared 64 = .ok (.aload_n 0, 1) := by decide +kernel
theorem dX12_cleared_65 : decode cX12_cleared 65 = .ok (.getfield 90, 3) := by decide +kernel
theorem dX12_cleared_68 : decode cX12_cleared 68 = .ok (.bipush 6, 2) := by decide +kernel
theorem dX12_cleared_70 : decode cX12_cleared 70 = .ok (.iload_n 1, 1) := by decide +kernel
theorem dX12_cleared_71 : decode cX12_cleared 71 = .ok (.bipush 10, 2) := by decide +kernel
theorem dX12_cleared_73 : decode cX12_cleared 73 = .ok (.idiv, 1) := by decide +kernel
theorem dX12_cleared_74 : decode cX12_cleared 74 = .ok (.imul, 1) := by decide +kernel
theorem dX12_cleared_75 : decode cX12_cleared 75 = .ok (.iload_n 1, 1) := by decide +kernel
theorem dX12_cleared_76 : decode cX12_cleared 76 = .ok (.bipush 10, 2) := by decide +kernel
theorem dX12_cleared_78 : decode cX12_cleared 78 = .ok (.irem, 1) := by decide +kernel
theorem dX12_cleared_79 : decode cX12_cleared 79 = .ok (.iadd, 1) := by decide +kernel
theorem dX12_cleared_80 : decode cX12_cleared 80 = .ok (.iaload, 1) := by decide +kernel
theorem dX12_cleared_81 : decode cX12_cleared 81 = .ok (.ireturn, 1) := by decide +kernel
theorem dX12_cleared_82 : decode cX12_cleared 82 = .ok (.iconst 0, 1) := by decide +kernel
theorem dX12_cleared_83 : decode cX12_cleared 83 = .ok (.istore_n 3, 1) := by decide +kernel
theorem dX12_cleared_84 : decode cX12_cleared 84 = .ok (.iconst 1, 1) := by decide +kernel
theorem dX12_cleared_85 : decode cX12_cleared 85 = .ok (.istore 4, 2) := by decide +kernel
theorem dX12_cleared_87 : decode cX12_cleared 87 = .ok (.iload 4, 2) := by decide +kernel
theorem dX12_cleared_89 : decode cX12_cleared 89 = .ok (.bipush 6, 2) := by decide +kernel
theorem dX12_cleared_91 : decode cX12_cleared 91 = .ok (.if_icmp .ge 39, 3) := by decide +kernel
theorem dX12_cleared_94 : decode cX12_cleared 94 = .ok (.aload_n 0, 1) := by decide +kernel
theorem dX12_cleared_95 : decode cX12_cleared 95 = .ok (.iload 4, 2) := by decide +kernel
theorem dX12_cleared_97 : decode cX12_cleared 97 = .ok (.invokevirtual 324, 3) := by decide +kernel
theorem dX12_cleared_100 : decode cX12_cleared 100 = .ok (.aload_n 0, 1) := by decide +kernel
theorem dX12_cleared_101 : decode cX12_cleared 101 = .ok (.iload 4, 2) := by decide +kernel
theorem dX12_cleared_103 : decode cX12_cleared 103 = .ok (.invokevirtual 321, 3) := by decide +kernel
theorem dX12_cleared_106 : decode cX12_cleared 106 = .ok (.isub, 1) := by decide +kernel
theorem dX12_cleared_107 : decode cX12_cleared 107 = .ok (.aload_n 0, 1) := by decide +kernel
theorem dX12_cleared_108 : decode cX12_cleared 108 = .ok (.iload_n 3, 1) := by decide +kernel
theorem dX12_cleared_109 : decode cX12_cleared 109 = .ok (.invokevirtual 324, 3) := by decide +kernel
theorem dX12_cleared_112 : decode cX12_cleared 112 = .ok (.aload_n 0, 1) := by decide +kernel
theorem dX12_cleared_113 : decode cX12_cleared 113 = .ok (.iload_n 3, 1) := by decide +kernel
theorem dX12_cleared_114 : decode cX12_cleared 114 = .ok (.invokevirtual 321, 3) := by decide +kernel
theorem dX12_cleared_117 : decode cX12_cleared 117 = .ok (.isub, 1) := by decide +kernel
theorem dX12_cleared_118 : decode cX12_cleared 118 = .ok (.if_icmp .le 6, 3) := by decide +kernel
theorem dX12_cleared_121 : decode cX12_cleared 121 = .ok (.iload 4, 2) := by decide +kernel
theorem dX12_cleared_123 : decode cX12_cleared 123 = .ok (.istore_n 3, 1) := by decide +kernel
theorem dX12_cleared_124 : decode cX12_cleared 124 = .ok (.iinc 4 1, 3) := by decide +kernel
theorem dX12_cleared_127 : decode cX12_cleared 127 = .ok (.goto (-40), 3) := by decide +kernel
theorem dX12_cleared_130 : decode cX12_cleared 130 = .ok (.iload_n 2, 1) := by decide +kernel
theorem dX12_cleared_131 : decode cX12_cleared 131 = .ok (.iconst 1, 1) := by decide +kernel
theorem dX12_cleared_132 : decode cX12_cleared 132 = .ok (.if_icmp .ne 7, 3) := by decide +kernel
theorem dX12_cleared_135 : decode cX12_cleared 135 = .ok (.iload_n 3, 1) := by decide +kernel
theorem dX12_cleared_136 : decode cX12_cleared 136 = .ok (.goto 14, 3) := by decide +kernel
theorem dX12_cleared_139 : decode cX12_cleared 139 = .ok (.aload_n 0, 1) := by decide +kernel
theorem dX12_cleared_140 : decode cX12_cleared 140 = .ok (.iload_n 3, 1) := by decide +kernel
theorem dX12_cleared_141 : decode cX12_cleared 141 = .ok (.invokevirtual 324, 3) := by decide +kernel
theorem dX12_cleared_144 : decode cX12_cleared 144 = .ok (.aload_n 0, 1) := by decide +kernel
theorem dX12_cleared_145 : decode cX12_cleared 145 = .ok (.iload_n 3, 1) := by decide +kernel
theorem dX12_cleared_146 : decode cX12_cleared 146 = .ok (.invokevirtual 321, 3) := by decide +kernel
theorem dX12_cleared_149 : decode cX12_cleared 149 = .ok (.isub, 1) := by decide +kernel
theorem dX12_cleared_150 : decode cX12_cleared 150 = .ok (.ireturn, 1) := by decide +kernel
theorem ok_yX12_cleared : yOk yX12_cleared 2 := ⟨by decide +kernel, by decide +kernel, by decide +kernel⟩
def fX12_cleared_87 (n : Nat) : Nat → St → Int32 → Int32 → Int32 → Option (Int32 × St)
  | 0, _, _, _, _ => none
  | k + 1, st, v2, v3, v4 => if (6 : Int32) ≤ v4 then (if v2 = (1 : Int32) then (some (v3, st)) else ((fX12_owedAll n st v3).bind (fun r12 => (fX12_owesAll n st v3).bind (fun r14 => some ((r12 - r14), st))))) else ((fX12_owedAll n st v4).bind (fun r16 => (fX12_owesAll n st v4).bind (fun r18 => (fX12_owedAll n st v3).bind (fun r20 => (fX12_owesAll n st v3).bind (fun r22 => if r16 - r18 ≤ r20 - r22 then (bnd (v4 + (1 : Int32)) (fun x25 => fX12_cleared_87 n k st v2 v3 x25)) else (bnd (v4 + (1 : Int32)) (fun x27 => fX12_cleared_87 n k st v2 v4 x27)))))))
set_option maxHeartbeats 4000000 in
theorem tX12_cleared_87 {p : Program} {l : Launch} {e : Env} {s : State} {m : MethodId} {args : Array Value} {below : List Frame} {meth : Method} {c : Code} {X : WX} (C : Amb 43 X p s m args meth c cX12_cleared 5 RX12) (hr : meth.sig.returnType = some .int) {R : Int32 × St} {n : Nat} : ∀ (k : Nat) (st : St) (v2 : Int32) (v3 : Int32) (v4 : Int32) (H : Heap) (locs : List Loc) (ls : Array Slot), Wd EM 43 X s.heap st H locs → lv_has ls 5 [(0, .ref (xq X 0)), (2, .int v2), (3, .int v3), (4, .int v4)] → fX12_cleared_87 n k st v2 v3 v4 = some R → W p l e { frames := 7, cells := 0, slots := 0, locals := 167 } s m args below meth c H locs 0 0 (QI EM 43 X R.1 R.2 below args s) (F0 m 87 ls []) := by
  obtain ⟨hx, hb, hml, hown, hts⟩ := id C.1
  intro k
  induction k with
  | zero => intro st v2 v3 v4 H locs ls  hw hl hf; exact absurd (show none = some R from hf) (fun z => by cases z)
  | succ k ih =>
    intro st v2 v3 v4 H locs ls  hw hl hf
    rw [fX12_cleared_87] at hf
    refine lv_iload hx hb dX12_cleared_87 (lv_at hl 3 rfl) ?_
    refine lv_bipush (v := 6) hx hb dX12_cleared_89 (by decide) ?_
    refine lv_icmp_ge (tgt := 130) hx hb dX12_cleared_91 (by decide) (fun c10 => ?_) (fun c10 => ?_)
    · replace hf := ite_t hf c10
      refine lv_iload_n hx hb dX12_cleared_130 rfl (lv_at hl 1 rfl) ?_
      refine lv_iconst (v := 1) hx hb dX12_cleared_131 (by decide) ?_
      refine lv_icmp_ne (tgt := 139) hx hb dX12_cleared_132 (by decide) (fun c11 => ?_) (fun c11 => ?_)
      · replace hf := ite_f hf c11
        refine lv_aload_n hx hb dX12_cleared_139 rfl (lv_at hl 0 rfl) ?_
        refine lv_iload_n hx hb dX12_cleared_140 rfl (lv_at hl 2 rfl) ?_
        obtain ⟨r12, k13, hf⟩ := bd_some hf
        refine w_goI hw (w_runV (rest := []) C hw (zX12_owedAll _ _ n st v3 r12 k13) (by decide) (EM_0 X _ _) rfl km_X12_324 ki_yX12_owedAll kv_X12_owedAll kz_X12 kc_X12_owedAll rfl ok_yX12_owedAll ⟨Nat.le_of_ble_eq_true rfl, Nat.le_of_ble_eq_true rfl⟩ rfl rfl rfl rfl hl.1 (Nat.le_of_ble_eq_true rfl) dX12_cleared_141 ⟨Nat.zero_le _, Nat.zero_le _⟩) (fun H locs hw => ?_)
        refine lv_aload_n hx hb dX12_cleared_144 rfl (lv_at hl 0 rfl) ?_
        refine lv_iload_n hx hb dX12_cleared_145 rfl (lv_at hl 2 rfl) ?_
        obtain ⟨r14, k15, hf⟩ := bd_some hf
        refine w_goI hw (w_runV (rest := [.int r12]) C hw (zX12_owesAll _ _ n st v3 r14 k15) (by decide) (EM_0 X _ _) rfl km_X12_321 ki_yX12_owesAll kv_X12_owesAll kz_X12 kc_X12_owesAll rfl ok_yX12_owesAll ⟨Nat.le_of_ble_eq_true rfl, Nat.le_of_ble_eq_true rfl⟩ rfl rfl rfl rfl hl.1 (Nat.le_of_ble_eq_true rfl) dX12_cleared_146 ⟨Nat.zero_le _, Nat.zero_le _⟩) (fun H locs hw => ?_)
        refine lv_isub hx hb dX12_cleared_149 ?_
        exact w_iret C hw hr (so2 hf).1 (so2 hf).2 dX12_cleared_150
      · replace hf := ite_t hf c11
        refine lv_iload_n hx hb dX12_cleared_135 rfl (lv_at hl 2 rfl) ?_
        refine lv_goto (tgt := 150) hx hb dX12_cleared_136 (by decide) ?_
        exact w_iret C hw hr (so2 hf).1 (so2 hf).2 dX12_cleared_150
    · replace hf := ite_f hf c10
      refine lv_aload_n hx hb dX12_cleared_94 rfl (lv_at hl 0 rfl) ?_
      refine lv_iload hx hb dX12_cleared_95 (lv_at hl 3 rfl) ?_
      obtain ⟨r16, k17, hf⟩ := bd_some hf
      refine w_goI hw (w_runV (rest := []) C hw (zX12_owedAll _ _ n st v4 r16 k17) (by decide) (EM_0 X _ _) rfl km_X12_324 ki_yX12_owedAll kv_X12_owedAll kz_X12 kc_X12_owedAll rfl ok_yX12_owedAll ⟨Nat.le_of_ble_eq_true rfl, Nat.le_of_ble_eq_true rfl⟩ rfl rfl rfl rfl hl.1 (Nat.le_of_ble_eq_true rfl) dX12_cleared_97 ⟨Nat.zero_le _, Nat.zero_le _⟩) (fun H locs hw => ?_)
      refine lv_aload_n hx hb dX12_cleared_100 rfl (lv_at hl 0 rfl) ?_
      refine lv_iload hx hb dX12_cleared_101 (lv_at hl 3 rfl) ?_
      obtain ⟨r18, k19, hf⟩ := bd_some hf
      refine w_goI hw (w_runV (rest := [.int r16]) C hw (zX12_owesAll _ _ n st v4 r18 k19) (by decide) (EM_0 X _ _) rfl km_X12_321 ki_yX12_owesAll kv_X12_owesAll kz_X12 kc_X12_owesAll rfl ok_yX12_owesAll ⟨Nat.le_of_ble_eq_true rfl, Nat.le_of_ble_eq_true rfl⟩ rfl rfl rfl rfl hl.1 (Nat.le_of_ble_eq_true rfl) dX12_cleared_103 ⟨Nat.zero_le _, Nat.zero_le _⟩) (fun H locs hw => ?_)
      refine lv_isub hx hb dX12_cleared_106 ?_
      refine lv_aload_n hx hb dX12_cleared_107 rfl (lv_at hl 0 rfl) ?_
      refine lv_iload_n hx hb dX12_cleared_108 rfl (lv_at hl 2 rfl) ?_
      obtain ⟨r20, k21, hf⟩ := bd_some hf
      refine w_goI hw (w_runV (rest := [.int (r16 - r18)]) C hw (zX12_owedAll _ _ n st v3 r20 k21) (by decide) (EM_0 X _ _) rfl km_X12_324 ki_yX12_owedAll kv_X12_owedAll kz_X12 kc_X12_owedAll rfl ok_yX12_owedAll ⟨Nat.le_of_ble_eq_true rfl, Nat.le_of_ble_eq_true rfl⟩ rfl rfl rfl rfl hl.1 (Nat.le_of_ble_eq_true rfl) dX12_cleared_109 ⟨Nat.zero_le _, Nat.zero_le _⟩) (fun H locs hw => ?_)
      refine lv_aload_n hx hb dX12_cleared_112 rfl (lv_at hl 0 rfl) ?_
      refine lv_iload_n hx hb dX12_cleared_113 rfl (lv_at hl 2 rfl) ?_
      obtain ⟨r22, k23, hf⟩ := bd_some hf
      refine w_goI hw (w_runV (rest := [.int r20, .int (r16 - r18)]) C hw (zX12_owesAll _ _ n st v3 r22 k23) (by decide) (EM_0 X _ _) rfl km_X12_321 ki_yX12_owesAll kv_X12_owesAll kz_X12 kc_X12_owesAll rfl ok_yX12_owesAll ⟨Nat.le_of_ble_eq_true rfl, Nat.le_of_ble_eq_true rfl⟩ rfl rfl rfl rfl hl.1 (Nat.le_of_ble_eq_true rfl) dX12_cleared_114 ⟨Nat.zero_le _, Nat.zero_le _⟩) (fun H locs hw => ?_)
      refine lv_isub hx hb dX12_cleared_117 ?_
      refine lv_icmp_le (tgt := 124) hx hb dX12_cleared_118 (by decide) (fun c24 => ?_) (fun c24 => ?_)
      · replace hf := ite_t hf c24
        obtain ⟨x25, e26⟩ : ∃ z : Int32, z = v4 + (1 : Int32) := ⟨_, rfl⟩
        replace hf := bnd_nm hf e26
        refine lv_iinc (v := x25) (lv' := [(4, .int x25), (0, .ref (xq X 0)), (2, .int v2), (3, .int v3)]) hx hb dX12_cleared_124 hl (k := 3) rfl (by rw [e26]; rfl) (by decide) rfl (fun ls hl => ?_)
        refine lv_goto (tgt := 87) hx hb dX12_cleared_127 (by decide) ?_
        exact ih st v2 v3 x25 _ _ _ hw (lv_sub hl [1, 2, 3, 0] rfl) hf
      · replace hf := ite_f hf c24
        refine lv_iload hx hb dX12_cleared_121 (lv_at hl 3 rfl) ?_
        refine lv_istore_n (lv' := [(3, .int v4), (0, .ref (xq X 0)), (2, .int v2), (4, .int v4)]) hx hb dX12_cleared_123 rfl hl (by decide) rfl (fun ls hl => ?_)
        obtain ⟨x27, e28⟩ : ∃ z : Int32, z = v4 + (1 : Int32) := ⟨_, rfl⟩
        replace hf := bnd_nm hf e28
        refine lv_iinc (v := x27) (lv' := [(4, .int x27), (3, .int v4), (0, .ref (xq X 0)), (2, .int v2)]) hx hb dX12_cleared_124 hl (k := 3) rfl (by rw [e28]; rfl) (by decide) rfl (fun ls hl => ?_)
        refine lv_goto (tgt := 87) hx hb dX12_cleared_127 (by decide) ?_
        exact ih st v2 v4 x27 _ _ _ hw (lv_sub hl [2, 3, 1, 0] rfl) hf
def fX12_cleared_52 (n : Nat) : Nat → St → Int32 → Int32 → Option (Int32 × St)
  | 0, _, _, _ => none
  | k + 1, st, v1, v3 => if v3 = 0 then (gd (inB (((6 : Int32) * (v1 / (10 : Int32))) + (rmI v1 (10 : Int32))) 36) (some ((gI st 27 (((6 : Int32) * (v1 / (10 : Int32))) + (rmI v1 (10 : Int32))).toNatClampNeg), st))) else ((fX12_clearsOne n st).bind (fun r31 => bnd (bI r31.1) (fun x33 => fX12_cleared_52 n k r31.2 v1 x33)))
set_option maxHeartbeats 4000000 in
theorem tX12_cleared_52 {p : Program} {l : Launch} {e : Env} {s : State} {m : MethodId} {args : Array Value} {below : List Frame} {meth : Method} {c : Code} {X : WX} (C : Amb 43 X p s m args meth c cX12_cleared 5 RX12) (hr : meth.sig.returnType = some .int) {R : Int32 × St} {n : Nat} : ∀ (k : Nat) (st : St) (v1 : Int32) (v3 : Int32) (H : Heap) (locs : List Loc) (ls : Array Slot), Wd EM 43 X s.heap st H locs → lv_has ls 5 [(0, .ref (xq X 0)), (1, .int v1), (3, .int v3)] → fX12_cleared_52 n k st v1 v3 = some R → W p l e { frames := 7, cells := 0, slots := 0, locals := 167 } s m args below meth c H locs 0 0 (QI EM 43 X R.1 R.2 below args s) (F0 m 52 ls []) := by
  obtain ⟨hx, hb, hml, hown, hts⟩ := id C.1
  intro k
  induction k with
  | zero => intro st v1 v3 H locs ls  hw hl hf; exact absurd (show none = some R from hf) (fun z => by cases z)
  | succ k ih =>
    intro st v1 v3 H locs ls  hw hl hf
    rw [fX12_cleared_52] at hf
    refine lv_iload_n hx hb dX12_cleared_52 rfl (lv_at hl 2 rfl) ?_
    refine lv_if_eq (tgt := 64) hx hb dX12_cleared_53 (by decide) (fun c29 => ?_) (fun c29 => ?_)
    · replace hf := ite_t hf c29
      refine lv_aload_n hx hb dX12_cleared_64 rfl (lv_at hl 0 rfl) ?_
      refine w_get (T := TX12) C hw (by decide) 38 kf_X12_90 (EM_0 X _ _) rfl inA12 (by decide) rfl dX12_cleared_65 ?_
      refine lv_bipush (v := 6) hx hb dX12_cleared_68 (by decide) ?_
      refine lv_iload_n hx hb dX12_cleared_70 rfl (lv_at hl 1 rfl) ?_
      refine lv_bipush (v := 10) hx hb dX12_cleared_71 (by decide) ?_
      refine lv_idiv hx hb dX12_cleared_73 (by decide) ?_
      refine lv_imul hx hb dX12_cleared_74 ?_
      refine lv_iload_n hx hb dX12_cleared_75 rfl (lv_at hl 1 rfl) ?_
      refine lv_bipush (v := 10) hx hb dX12_cleared_76 (by decide) ?_
      refine w_irem C (by decide) dX12_cleared_78 ?_
      refine lv_iadd hx hb dX12_cleared_79 ?_
      obtain ⟨h30, hf⟩ := gd_some hf
      refine w_iald C hw (by decide) (EM_27 X _ _) h30 rfl dX12_cleared_80 ?_
      exact w_iret C hw hr (so2 hf).1 (so2 hf).2 dX12_cleared_81
    · replace hf := ite_f hf c29
      refine lv_aload_n hx hb dX12_cleared_56 rfl (lv_at hl 0 rfl) ?_
      obtain ⟨r31, k32, hf⟩ := bd_some hf
      refine w_goI hw (w_runV (rest := []) C hw (zX12_clearsOne _ _ n st r31 k32) (by decide) (EM_0 X _ _) rfl km_X12_364 ki_yX12_clearsOne kv_X12_clearsOne kz_X12 kc_X12_clearsOne rfl ok_yX12_clearsOne ⟨Nat.le_of_ble_eq_true rfl, Nat.le_of_ble_eq_true rfl⟩ rfl rfl rfl rfl hl.1 (Nat.le_of_ble_eq_true rfl) dX12_cleared_57 ⟨Nat.zero_le _, Nat.zero_le _⟩) (fun H locs hw => ?_)
      refine lv_topi (fun x33 e34 => ?_)
      replace hf := bnd_nm hf e34
      refine lv_istore_n (lv' := [(3, .int x33), (0, .ref (xq X 0)), (1, .int v1)]) hx hb dX12_cleared_60 rfl hl (by decide) rfl (fun ls hl => ?_)
      refine lv_goto (tgt := 52) hx hb dX12_cleared_61 (by decide) ?_
      exact ih r31.2 v1 x33 _ _ _ hw (lv_sub hl [1, 2, 0] rfl) hf
def fX12_cleared_42 (n : Nat) (st : St) (v1 : Int32) (v2 : Int32) : Option (Int32 × St) := (fX12_findOwed n st).bind (fun r7 => if v2 = 0 then (fX12_cleared_52 n n r7 v1 (1 : Int32)) else (fX12_cleared_87 n n r7 v2 (0 : Int32) (1 : Int32)))
set_option maxHeartbeats 4000000 in
theorem tX12_cleared_42 {p : Program} {l : Launch} {e : Env} {s : State} {m : MethodId} {args : Array Value} {below : List Frame} {meth : Method} {c : Code} {X : WX} (C : Amb 43 X p s m args meth c cX12_cleared 5 RX12) (hr : meth.sig.returnType = some .int) {R : Int32 × St} {n : Nat} : ∀ (st : St) (v1 : Int32) (v2 : Int32) (H : Heap) (locs : List Loc) (ls : Array Slot), Wd EM 43 X s.heap st H locs → lv_has ls 5 [(0, .ref (xq X 0)), (1, .int v1), (2, .int v2)] → fX12_cleared_42 n st v1 v2 = some R → W p l e { frames := 7, cells := 0, slots := 0, locals := 167 } s m args below meth c H locs 0 0 (QI EM 43 X R.1 R.2 below args s) (F0 m 42 ls []) := by
  obtain ⟨hx, hb, hml, hown, hts⟩ := id C.1
  intro st v1 v2 H locs ls  hw hl hf
  unfold fX12_cleared_42 at hf
  refine lv_aload_n hx hb dX12_cleared_42 rfl (lv_at hl 0 rfl) ?_
  obtain ⟨r7, k8, hf⟩ := bd_some hf
  refine w_goV hw (w_runV (rest := []) C hw (zX12_findOwed _ _ n st r7 k8) (by decide) (EM_0 X _ _) rfl km_X12_315 ki_yX12_findOwed kv_X12_findOwed kz_X12 kc_X12_findOwed rfl ok_yX12_findOwed ⟨Nat.le_of_ble_eq_true rfl, Nat.le_of_ble_eq_true rfl⟩ rfl rfl rfl rfl hl.1 (Nat.le_of_ble_eq_true rfl) dX12_cleared_43 ⟨Nat.zero_le _, Nat.zero_le _⟩) (fun H locs hw => ?_)
  refine lv_iload_n hx hb dX12_cleared_46 rfl (lv_at hl 2 rfl) ?_
  refine lv_if_ne (tgt := 82) hx hb dX12_cleared_47 (by decide) (fun c9 => ?_) (fun c9 => ?_)
  · replace hf := ite_f hf c9
    refine lv_iconst (v := 0) hx hb dX12_cleared_82 (by decide) ?_
    refine lv_istore_n (lv' := [(3, .int (0 : Int32)), (0, .ref (xq X 0)), (1, .int v1), (2, .int v2)]) hx hb dX12_cleared_83 rfl hl (by decide) rfl (fun ls hl => ?_)
    refine lv_iconst (v := 1) hx hb dX12_cleared_84 (by decide) ?_
    refine lv_istore (lv' := [(4, .int (1 : Int32)), (3, .int (0 : Int32)), (0, .ref (xq X 0)), (1, .int v1), (2, .int v2)]) hx hb dX12_cleared_85 hl (by decide) rfl (fun ls hl => ?_)
    exact tX12_cleared_87 C hr n r7 v2 (0 : Int32) (1 : Int32) _ _ _ hw (lv_sub hl [2, 4, 1, 0] rfl) hf
  · replace hf := ite_t hf c9
    refine lv_iconst (v := 1) hx hb dX12_cleared_50 (by decide) ?_
    refine lv_istore_n (lv' := [(3, .int (1 : Int32)), (0, .ref (xq X 0)), (1, .int v1), (2, .int v2)]) hx hb dX12_cleared_51 rfl hl (by decide) rfl (fun ls hl => ?_)
    exact tX12_cleared_52 C hr n r7 v1 (1 : Int32) _ _ _ hw (lv_sub hl [1, 2, 0] rfl) hf
def fX12_cleared_31 (n : Nat) (st : St) (v1 : Int32) (v2 : Int32) : Option (Int32 × St) := if v2 ≤ 0 then (fX12_cleared_42 n st v1 v2) else (if v1 = 0 then (fX12_cleared_42 n st v1 v2) else (some ((-2000000000 : Int32), st)))
set_option maxHeartbeats 4000000 in
theorem tX12_cleared_31 {p : Program} {l : Launch} {e : Env} {s : State} {m : MethodId} {args : Array Value} {below : List Frame} {meth : Method} {c : Code} {X : WX} (C : Amb 43 X p s m args meth c cX12_cleared 5 RX12) (hr : meth.sig.returnType = some .int) {R : Int32 × St} {n : Nat} : ∀ (st : St) (v1 : Int32) (v2 : Int32) (H : Heap) (locs : List Loc) (ls : Array Slot), Wd EM 43 X s.heap st H locs → lv_has ls 5 [(0, .ref (xq X 0)), (1, .int v1), (2, .int v2)] → fX12_cleared_31 n st v1 v2 = some R → W p l e { frames := 7, cells := 0, slots := 0, locals := 167 } s m args below meth c H locs 0 0 (QI EM 43 X R.1 R.2 below args s) (F0 m 31 ls []) := by
  obtain ⟨hx, hb, hml, hown, hts⟩ := id C.1
  intro st v1 v2 H locs ls  hw hl hf
  unfold fX12_cleared_31 at hf
  refine lv_iload_n hx hb dX12_cleared_31 rfl (lv_at hl 2 rfl) ?_
  refine lv_if_le (tgt := 42) hx hb dX12_cleared_32 (by decide) (fun c5 => ?_) (fun c5 => ?_)
  · replace hf := ite_t hf c5
    exact tX12_cleared_42 C hr st v1 v2 _ _ _ hw (lv_sub hl [0, 1, 2] rfl) hf
  · replace hf := ite_f hf c5
    refine lv_iload_n hx hb dX12_cleared_35 rfl (lv_at hl 1 rfl) ?_
    refine lv_if_eq (tgt := 42) hx hb dX12_cleared_36 (by decide) (fun c6 => ?_) (fun c6 => ?_)
    · replace hf := ite_t hf c6
      exact tX12_cleared_42 C hr st v1 v2 _ _ _ hw (lv_sub hl [0, 1, 2] rfl) hf
    · replace hf := ite_f hf c6
      refine lv_ldc (v := -2000000000) hx hb hown (hts _ kn_X12_213) dX12_cleared_39 ?_
      exact w_iret C hw hr (so2 hf).1 (so2 hf).2 dX12_cleared_41
def fX12_cleared (n : Nat) (st : St) (a1 : Int32) (a2 : Int32) : Option (Int32 × St) := if bI (fX12_in a2 (0 : Int32) (2 : Int32)) = 0 then (some ((-2000000000 : Int32), st)) else (if a2 = 0 then (if bI (fX12_areTwo a1) = 0 then (some ((-2000000000 : Int32), st)) else (if a1 / (10 : Int32) = rmI a1 (10 : Int32) then (some ((-2000000000 : Int32), st)) else (fX12_cleared_31 n st a1 a2))) else (fX12_cleared_31 n st a1 a2))
set_option maxHeartbeats 4000000 in
theorem zX12_cleared (l : Launch) (X : WX) (n : Nat) (st : St) (a1 : Int32) (a2 : Int32) (R : Int32 × St) (hf : fX12_cleared n st a1 a2 = some R) : CtI l yX12_cleared cX12_cleared 5 .int ({ frames := 7, cells := 0, slots := 0, locals := 167 }) EM 43 X [.ref (xq X 0), .int a1, .int a2] st R.1 R.2 := by
  refine ct_in (own := RX12) (by decide +kernel) rfl (Nat.le_of_ble_eq_true rfl) (fun p e s m below meth c C hr hw ls hl => ?_)
  obtain ⟨hx, hb, hml, hown, hts⟩ := id C.1
  have hl : lv_has ls 5 [(0, .ref (xq X 0)), (1, .int a1), (2, .int a2)] := hl
  unfold fX12_cleared at hf
  refine lv_iload_n hx hb dX12_cleared_0 rfl (lv_at hl 2 rfl) ?_
  refine lv_iconst (v := 0) hx hb dX12_cleared_1 (by decide) ?_
  refine lv_iconst (v := 2) hx hb dX12_cleared_2 (by decide) ?_
  refine w_goI hw (w_runS (rest := []) C hw (zX12_in _ _ st a2 (0 : Int32) (2 : Int32)) km_X12_147 kt_yX12_in kz_X12 kc_X12_in ok_yX12_in ⟨Nat.le_of_ble_eq_true rfl, Nat.le_of_ble_eq_true rfl⟩ rfl rfl rfl rfl hl.1 (Nat.le_of_ble_eq_true rfl) dX12_cleared_3 ⟨Nat.zero_le _, Nat.zero_le _⟩) (fun H locs hw => ?_)
  refine lv_if_eq (tgt := 39) hx hb dX12_cleared_6 (by decide) (fun c1 => ?_) (fun c1 => ?_)
  · replace hf := ite_t hf c1
    refine lv_ldc (v := -2000000000) hx hb hown (hts _ kn_X12_213) dX12_cleared_39 ?_
    exact w_iret C hw hr (so2 hf).1 (so2 hf).2 dX12_cleared_41
  · replace hf := ite_f hf c1
    refine lv_iload_n hx hb dX12_cleared_9 rfl (lv_at hl 2 rfl) ?_
    refine lv_if_ne (tgt := 31) hx hb dX12_cleared_10 (by decide) (fun c2 => ?_) (fun c2 => ?_)
    · replace hf := ite_f hf c2
      exact tX12_cleared_31 C hr st a1 a2 _ _ _ hw (lv_sub hl [0, 1, 2] rfl) hf
    · replace hf := ite_t hf c2
      refine lv_iload_n hx hb dX12_cleared_13 rfl (lv_at hl 1 rfl) ?_
      refine w_goI hw (w_runS (rest := []) C hw (zX12_areTwo _ _ st a1) km_X12_318 kt_yX12_areTwo kz_X12 kc_X12_areTwo ok_yX12_areTwo ⟨Nat.le_of_ble_eq_true rfl, Nat.le_of_ble_eq_true rfl⟩ rfl rfl rfl rfl hl.1 (Nat.le_of_ble_eq_true rfl) dX12_cleared_14 ⟨Nat.zero_le _, Nat.zero_le _⟩) (fun H locs hw => ?_)
      refine lv_if_eq (tgt := 39) hx hb dX12_cleared_17 (by decide) (fun c3 => ?_) (fun c3 => ?_)
      · replace hf := ite_t hf c3
        refine lv_ldc (v := -2000000000) hx hb hown (hts _ kn_X12_213) dX12_cleared_39 ?_
        exact w_iret C hw hr (so2 hf).1 (so2 hf).2 dX12_cleared_41
      · replace hf := ite_f hf c3
        refine lv_iload_n hx hb dX12_cleared_20 rfl (lv_at hl 1 rfl) ?_
        refine lv_bipush (v := 10) hx hb dX12_cleared_21 (by decide) ?_
        refine lv_idiv hx hb dX12_cleared_23 (by decide) ?_
        refine lv_iload_n hx hb dX12_cleared_24 rfl (lv_at hl 1 rfl) ?_
        refine lv_bipush (v := 10) hx hb dX12_cleared_25 (by decide) ?_
        refine w_irem C (by decide) dX12_cleared_27 ?_
        refine lv_icmp_eq (tgt := 39) hx hb dX12_cleared_28 (by decide) (fun c4 => ?_) (fun c4 => ?_)
        · replace hf := ite_t hf c4
          refine lv_ldc (v := -2000000000) hx hb hown (hts _ kn_X12_213) dX12_cleared_39 ?_
          exact w_iret C hw hr (so2 hf).1 (so2 hf).2 dX12_cleared_41
        · replace hf := ite_f hf c4
          exact tX12_cleared_31 C hr st a1 a2 _ _ _ hw (lv_sub hl [0, 1, 2] rfl) hf
theorem dX12_rowFault_0 : decode cX12_rowFault 0 = .ok (.aload_n 0, 1) := by decide +kernel
theorem dX12_rowFault_1 : decode cX12_rowFault 1 = .ok (.getfield 127, 3) := by decide +kernel
theorem dX12_rowFault_4 : decode cX12_rowFault 4 = .ok (.iload_n 1, 1) := by decide +kernel
theorem dX12_rowFault_5 : decode cX12_rowFault 5 = .ok (.iaload, 1) := by decide +kernel
theorem dX12_rowFault_6 : decode cX12_rowFault 6 = .ok (.iconst (-1), 1) := by decide +kernel
theorem dX12_rowFault_7 : decode cX12_rowFault 7 = .ok (.if_icmp .ne 8, 3) := by decide +kernel
theorem dX12_rowFault_10 : decode cX12_rowFault 10 = .ok (.bipush (-11), 2) := by decide +kernel
theorem dX12_rowFault_12 : decode cX12_rowFault 12 = .ok (.goto 22, 3) := by decide +kernel
theorem dX12_rowFault_15 : decode cX12_rowFault 15 = .ok (.aload_n 0, 1) := by decide +kernel
theorem dX12_rowFault_16 : decode cX12_rowFault 16 = .ok (.getfield 127, 3) := by decide +kernel
theorem dX12_rowFault_19 : decode cX12_rowFault 19 = .ok (.iload_n 1, 1) := by decide +kernel
theorem dX12_rowFault_20 : decode cX12_rowFault 20 = .ok (.iaload, 1) := by decide +kernel
theorem dX12_rowFault_21 : decode cX12_rowFault 21 = .ok (.bipush (-2), 2) := by decide +kernel
theorem dX12_rowFault_23 : decode cX12_rowFault 23 = .ok (.iload_n 2, 1) := by decide +kernel
theorem dX12_rowFault_24 : decode cX12_rowFault 24 = .ok (.isub, 1) := by decide +kernel
theorem dX12_rowFault_25 : decode cX12_rowFault 25 = .ok (.if_icmp .ne 7, 3) := by decide +kernel
theorem dX12_rowFault_28 : decode cX12_rowFault 28 = .ok (.iconst 0, 1) := by decide +kernel
theorem dX12_rowFault_29 : decode cX12_rowFault 29 = .ok (.goto 5, 3) := by decide +kernel
theorem dX12_rowFault_32 : decode cX12_rowFault 32 = .ok (.bipush (-12), 2) := by decide +kernel
theorem dX12_rowFault_34 : decode cX12_rowFault 34 = .ok (.ireturn, 1) := by decide +kernel
theorem ok_yX12_rowFault : yOk yX12_rowFault 2 := ⟨by decide +kernel, by decide +kernel, by decide +kernel⟩
def fX12_rowFault (st : St) (a1 : Int32) (a2 : Int32) : Option (Int32) := gd (inB a1 6) (if gI st 39 a1.toNatClampNeg = (-1 : Int32) then (some (-11 : Int32)) else (gd (inB a1 6) (if gI st 39 a1.toNatClampNeg = (-2 : Int32) - a2 then (some (0 : Int32)) else (some (-12 : Int32)))))
set_option maxHeartbeats 4000000 in
theorem zX12_rowFault (l : Launch) (X : WX) (st : St) (a1 : Int32) (a2 : Int32) (R : Int32) (hf : fX12_rowFault st a1 a2 = some R) : CtI l yX12_rowFault cX12_rowFault 3 .int ({ frames := 0, cells := 0, slots := 0, locals := 0 }) EM 43 X [.ref (xq X 0), .int a1, .int a2] st R st := by
  refine ct_in (own := RX12) (by decide +kernel) rfl (Nat.le_of_ble_eq_true rfl) (fun p e s m below meth c C hr hw ls hl => ?_)
  obtain ⟨hx, hb, hml, hown, hts⟩ := id C.1
  have hl : lv_has ls 3 [(0, .ref (xq X 0)), (1, .int a1), (2, .int a2)] := hl
  unfold fX12_rowFault at hf
  refine lv_aload_n hx hb dX12_rowFault_0 rfl (lv_at hl 0 rfl) ?_
  refine w_get (T := TX12) C hw (by decide) 54 kf_X12_127 (EM_0 X _ _) rfl inA12 (by decide) rfl dX12_rowFault_1 ?_
  refine lv_iload_n hx hb dX12_rowFault_4 rfl (lv_at hl 1 rfl) ?_
  obtain ⟨h1, hf⟩ := gd_some hf
  refine w_iald C hw (by decide) (EM_39 X _ _) h1 rfl dX12_rowFault_5 ?_
  refine lv_iconst (v := -1) hx hb dX12_rowFault_6 (by decide) ?_
  refine lv_icmp_ne (tgt := 15) hx hb dX12_rowFault_7 (by decide) (fun c2 => ?_) (fun c2 => ?_)
  · replace hf := ite_f hf c2
    refine lv_aload_n hx hb dX12_rowFault_15 rfl (lv_at hl 0 rfl) ?_
    refine w_get (T := TX12) C hw (by decide) 54 kf_X12_127 (EM_0 X _ _) rfl inA12 (by decide) rfl dX12_rowFault_16 ?_
    refine lv_iload_n hx hb dX12_rowFault_19 rfl (lv_at hl 1 rfl) ?_
    obtain ⟨h3, hf⟩ := gd_some hf
    refine w_iald C hw (by decide) (EM_39 X _ _) h3 rfl dX12_rowFault_20 ?_
    refine lv_bipush (v := -2) hx hb dX12_rowFault_21 (by decide) ?_
    refine lv_iload_n hx hb dX12_rowFault_23 rfl (lv_at hl 2 rfl) ?_
    refine lv_isub hx hb dX12_rowFault_24 ?_
    refine lv_icmp_ne (tgt := 32) hx hb dX12_rowFault_25 (by decide) (fun c4 => ?_) (fun c4 => ?_)
    · replace hf := ite_f hf c4
      refine lv_bipush (v := -12) hx hb dX12_rowFault_32 (by decide) ?_
      exact w_iret C hw hr (Option.some.inj hf) rfl dX12_rowFault_34
    · replace hf := ite_t hf c4
      refine lv_iconst (v := 0) hx hb dX12_rowFault_28 (by decide) ?_
      refine lv_goto (tgt := 34) hx hb dX12_rowFault_29 (by decide) ?_
      exact w_iret C hw hr (Option.some.inj hf) rfl dX12_rowFault_34
  · replace hf := ite_t hf c2
    refine lv_bipush (v := -11) hx hb dX12_rowFault_10 (by decide) ?_
    refine lv_goto (tgt := 34) hx hb dX12_rowFault_12 (by decide) ?_
    exact w_iret C hw hr (Option.some.inj hf) rfl dX12_rowFault_34
theorem dX12_told_0 : decode cX12_told 0 = .ok (.aload_n 0, 1) := by decide +kernel
theorem dX12_told_1 : decode cX12_told 1 = .ok (.getfield 133, 3) := by decide +kernel
theorem dX12_told_4 : decode cX12_told 4 = .ok (.bipush 60, 2) := by decide +kernel
theorem dX12_told_6 : decode cX12_told 6 = .ok (.iload_n 1, 1) := by decide +kernel
theorem dX12_told_7 : decode cX12_told 7 = .ok (.imul, 1) := by decide +kernel
theorem dX12_told_8 : decode cX12_told 8 = .ok (.iload_n 2, 1) := by decide +kernel
theorem dX12_told_9 : decode cX12_told 9 = .ok (.iadd, 1) := by decide +kernel
theorem dX12_told_10 : decode cX12_told 10 = .ok (.laload, 1) := by decide +kernel
theorem dX12_told_11 : decode cX12_told 11 = .ok (.l2i, 1) := by decide +kernel
theorem dX12_told_12 : decode cX12_told 12 = .ok (.ireturn, 1) := by decide +kernel
theorem ok_yX12_told : yOk yX12_told 2 := ⟨by decide +kernel, by decide +kernel, by decide +kernel⟩
def fX12_told (st : St) (a1 : Int32) (a2 : Int32) : Option (Int32) := gd (inB (((60 : Int32) * a1) + a2) 360) (some ((gL st 41 (((60 : Int32) * a1) + a2).toNatClampNeg).toInt32))
set_option maxHeartbeats 4000000 in
theorem zX12_told (l : Launch) (X : WX) (st : St) (a1 : Int32) (a2 : Int32) (R : Int32) (hf : fX12_told st a1 a2 = some R) : CtI l yX12_told cX12_told 3 .int ({ frames := 0, cells := 0, slots := 0, locals := 0 }) EM 43 X [.ref (xq X 0), .int a1, .int a2] st R st := by
  refine ct_in (own := RX12) (by decide +kernel) rfl (Nat.le_of_ble_eq_true rfl) (fun p e s m below meth c C hr hw ls hl => ?_)
  obtain ⟨hx, hb, hml, hown, hts⟩ := id C.1
  have hl : lv_has ls 3 [(0, .ref (xq X 0)), (1, .int a1), (2, .int a2)] := hl
  unfold fX12_told at hf
  refine lv_aload_n hx hb dX12_told_0 rfl (lv_at hl 0 rfl) ?_
  refine w_get (T := TX12) C hw (by decide) 56 kf_X12_133 (EM_0 X _ _) rfl inA12 (by decide) rfl dX12_told_1 ?_
  refine lv_bipush (v := 60) hx hb dX12_told_4 (by decide) ?_
  refine lv_iload_n hx hb dX12_told_6 rfl (lv_at hl 1 rfl) ?_
  refine lv_imul hx hb dX12_told_7 ?_
  refine lv_iload_n hx hb dX12_told_8 rfl (lv_at hl 2 rfl) ?_
  refine lv_iadd hx hb dX12_told_9 ?_
  obtain ⟨h1, hf⟩ := gd_some hf
  refine w_lald C hw (by decide) (EM_41 X _ _) h1 rfl dX12_told_10 ?_
  refine lv_l2i (v := (gL st 41 (((60 : Int32) * a1) + a2).toNatClampNeg).toInt32) hx hb dX12_told_11 rfl ?_
  exact w_iret C hw hr (Option.some.inj hf) rfl dX12_told_12
theorem dX12_isSight_0 : decode cX12_isSight 0 = .ok (.iload_n 2, 1) := by decide +kernel
theorem dX12_isSight_1 : decode cX12_isSight 1 = .ok (.iconst 3, 1) := by decide +kernel
theorem dX12_isSight_2 : decode cX12_isSight 2 = .ok (.iadd, 1) := by decide +kernel
theorem dX12_isSight_3 : decode cX12_isSight 3 = .ok (.aload_n 0, 1) := by decide +kernel
theorem dX12_isSight_4 : decode cX12_isSight 4 = .ok (.getfield 130, 3) := by decide +kernel
theorem dX12_isSight_7 : decode cX12_isSight 7 = .ok (.iload_n 1, 1) := by decide +kernel
theorem dX12_isSight_8 : decode cX12_isSight 8 = .ok (.iaload, 1) := by decide +kernel
theorem dX12_isSight_9 : decode cX12_isSight 9 = .ok (.if_icmp .lt 5, 3) := by decide +kernel
theorem dX12_isSight_12 : decode cX12_isSight 12 = .ok (.iconst 0, 1) := by decide +kernel
theorem dX12_isSight_13 : decode cX12_isSight 13 = .ok (.ireturn, 1) := by decide +kernel
theorem dX12_isSight_14 : decode cX12_isSight 14 = .ok (.aload_n 0, 1) := by decide +kernel
theorem dX12_isSight_15 : decode cX12_isSight 15 = .ok (.iload_n 1, 1) := by decide +kernel
theorem dX12_isSight_16 : decode cX12_isSight 16 = .ok (.iload_n 2, 1) := by decide +kernel
theorem dX12_isSight_17 : decode cX12_isSight 17 = .ok (.iconst 2, 1) := by decide +kernel
theorem dX12_isSight_18 : decode cX12_isSight 18 = .ok (.iadd, 1) := by decide +kernel
theorem dX12_isSight_19 : decode cX12_isSight 19 = .ok (.invokevirtual 367, 3) := by decide +kernel
theorem dX12_isSight_22 : decode cX12_isSight 22 = .ok (.istore_n 3, 1) := by decide +kernel
theorem dX12_isSight_23 : decode cX12_isSight 23 = .ok (.aload_n 0, 1) := by decide +kernel
theorem dX12_isSight_24 : decode cX12_isSight 24 = .ok (.iload_n 1, 1) := by decide +kernel
theorem dX12_isSight_25 : decode cX12_isSight 25 = .ok (.iload_n 2, 1) := by decide +kernel
theorem dX12_isSight_26 : decode cX12_isSight 26 = .ok (.iconst 3, 1) := by decide +kernel
theorem dX12_isSight_27 : decode cX12_isSight 27 = .ok (.iadd, 1) := by decide +kernel
theorem dX12_isSight_28 : decode cX12_isSight 28 = .ok (.invokevirtual 367, 3) := by decide +kernel
theorem dX12_isSight_31 : decode cX12_isSight 31 = .ok (.istore 4, 2) := by decide +kernel
theorem dX12_isSight_33 : decode cX12_isSight 33 = .ok (.aload_n 0, 1) := by decide +kernel
theorem dX12_isSight_34 : decode cX12_isSight 34 = .ok (.iload_n 1, 1) := by decide +kernel
theorem dX12_isSight_35 : decode cX12_isSight 35 = .ok (.iload_n 2, 1) := by decide +kernel
theorem dX12_isSight_36 : decode cX12_isSight 36 = .ok (.invokevirtual 367, 3) := by decide +kernel
theorem dX12_isSight_39 : decode cX12_isSight 39 = .ok (.iconst 0, 1) := by decide +kernel
theorem dX12_isSight_40 : decode cX12_isSight 40 = .ok (.bipush 19, 2) := by decide +kernel
theorem dX12_isSight_42 : decode cX12_isSight 42 = .ok (.invokestatic 147, 3) := by decide +kernel
theorem dX12_isSight_45 : decode cX12_isSight 45 = .ok (.ifCond .eq 56, 3) := by decide +kernel
theorem dX12_isSight_48 : decode cX12_isSight 48 = .ok (.aload_n 0, 1) := by decide +kernel
theorem dX12_isSight_49 : decode cX12_isSight 49 = .ok (.iload_n 1, 1) := by decide +kernel
theorem dX12_isSight_50 : decode cX12_isSight 50 = .ok (.iload_n 2, 1) := by decide +kernel
theorem dX12_isSight_51 : decode cX12_isSight 51 = .ok (.iconst 1, 1) := by decide +kernel
theorem dX12_isSight_52 : decode cX12_isSight 52 = .ok (.iadd, 1) := by decide +kernel
theorem dX12_isSight_53 : decode cX12_isSight 53 = .ok (.invokevirtual 367, 3) := by decide +kernel
theorem dX12_isSight_56 : decode cX12_isSight 56 = .ok (.iconst 0, 1) := by decide +kernel
theorem dX12_isSight_57 : decode cX12_isSight 57 = .ok (.bipush 19, 2) := by decide +kernel
theorem dX12_isSight_59 : decode cX12_isSight 59 = .ok (.invokestatic 147, 3) := by decide +kernel
theorem dX12_isSight_62 : decode cX12_isSight 62 = .ok (.ifCond .eq 39, 3) := by decide +kernel
theorem dX12_isSight_65 : decode cX12_isSight 65 = .ok (.iload_n 3, 1) := by decide +kernel
theorem dX12_isSight_66 : decode cX12_isSight 66 = .ok (.bipush (-9), 2) := by decide +kernel
theorem dX12_isSight_68 : decode cX12_isSight 68 = .ok (.bipush 9, 2) := by decide +kernel
theorem dX12_isSight_70 : decode cX12_isSight 70 = .ok (.invokestatic 147, 3) := by decide +kernel
theorem dX12_isSight_73 : decode cX12_isSight 73 = .ok (.ifCond .eq 28, 3) := by decide +kernel
theorem dX12_isSight_76 : decode cX12_isSight 76 = .ok (.iload 4, 2) := by decide +kernel
theorem dX12_isSight_78 : decode cX12_isSight 78 = .ok (.bipush (-9), 2) := by decide +kernel
theorem dX12_isSight_80 : decode cX12_isSight 80 = .ok (.bipush 9, 2) := by decide +kernel
theorem dX12_isSight_82 : decode cX12_isSight 82 = .ok (.invokestatic 147, 3) := by decide +kernel
theorem dX12_isSight_85 : decode cX12_isSight 85 = .ok (.ifCond .eq 16, 3) := by decide +kernel
theorem dX12_isSight_88 : decode cX12_isSight 88 = .ok (.iload_n 3, 1) := by decide +kernel
theorem dX12_isSight_89 : decode cX12_isSight 89 = .ok (.ifCond .ne 8, 3) := by decide +kernel
theorem dX12_isSight_92 : decode cX12_isSight 92 = .ok (.iload 4, 2) := by decide +kernel
theorem dX12_isSight_94 : decode cX12_isSight 94 = .ok (.ifCond .eq 7, 3) := by decide +kernel
theorem dX12_isSight_97 : decode cX12_isSight 97 = .ok (.iconst 1, 1) := by decide +kernel
theorem dX12_isSight_98 : decode cX12_isSight 98 = .ok (.goto 4, 3) := by decide +kernel
theorem dX12_isSight_101 : decode cX12_isSight 101 = .ok (.iconst 0, 1) := by decide +kernel
theorem dX12_isSight_102 : decode cX12_isSight 102 = .ok (.ireturn, 1) := by decide +kernel
theorem ok_yX12_isSight : yOk yX12_isSight 2 := ⟨by decide +kernel, by decide +kernel, by decide +kernel⟩
def fX12_isSight (st : St) (a1 : Int32) (a2 : Int32) : Option (Bool) := gd (inB a1 6) (if a2 + (3 : Int32) < gI st 40 a1.toNatClampNeg then ((fX12_told st a1 (a2 + (2 : Int32))).bind (fun r3 => (fX12_told st a1 (a2 + (3 : Int32))).bind (fun r5 => (fX12_told st a1 a2).bind (fun r7 => if bI (fX12_in r7 (0 : Int32) (19 : Int32)) = 0 then (some false) else ((fX12_told st a1 (a2 + (1 : Int32))).bind (fun r10 => if bI (fX12_in r10 (0 : Int32) (19 : Int32)) = 0 then (some false) else (if bI (fX12_in r3 (-9 : Int32) (9 : Int32)) = 0 then (some false) else (if bI (fX12_in r5 (-9 : Int32) (9 : Int32)) = 0 then (some false) else (if r3 = 0 then (if r5 = 0 then (some false) else (some true)) else (some true)))))))))) else (some false))
set_option maxHeartbeats 4000000 in
theorem zX12_isSight (l : Launch) (X : WX) (st : St) (a1 : Int32) (a2 : Int32) (R : Bool) (hf : fX12_isSight st a1 a2 = some R) : CtI l yX12_isSight cX12_isSight 5 .boolean ({ frames := 1, cells := 0, slots := 0, locals := 22 }) EM 43 X [.ref (xq X 0), .int a1, .int a2] st (bI R) st := by
  refine ct_in (own := RX12) (by decide +kernel) rfl (Nat.le_of_ble_eq_true rfl) (fun p e s m below meth c C hr hw ls hl => ?_)
  obtain ⟨hx, hb, hml, hown, hts⟩ := id C.1
  have hl : lv_has ls 5 [(0, .ref (xq X 0)), (1, .int a1), (2, .int a2)] := hl
  unfold fX12_isSight at hf
  refine lv_iload_n hx hb dX12_isSight_0 rfl (lv_at hl 2 rfl) ?_
  refine lv_iconst (v := 3) hx hb dX12_isSight_1 (by decide) ?_
  refine lv_iadd hx hb dX12_isSight_2 ?_
  refine lv_aload_n hx hb dX12_isSight_3 rfl (lv_at hl 0 rfl) ?_
  refine w_get (T := TX12) C hw (by decide) 55 kf_X12_130 (EM_0 X _ _) rfl inA12 (by decide) rfl dX12_isSight_4 ?_
  refine lv_iload_n hx hb dX12_isSight_7 rfl (lv_at hl 1 rfl) ?_
  obtain ⟨h1, hf⟩ := gd_some hf
  refine w_iald C hw (by decide) (EM_40 X _ _) h1 rfl dX12_isSight_8 ?_
  refine lv_icmp_lt (tgt := 14) hx hb dX12_isSight_9 (by decide) (fun c2 => ?_) (fun c2 => ?_)
  · replace hf := ite_t hf c2
    refine lv_aload_n hx hb dX12_isSight_14 rfl (lv_at hl 0 rfl) ?_
    refine lv_iload_n hx hb dX12_isSight_15 rfl (lv_at hl 1 rfl) ?_
    refine lv_iload_n hx hb dX12_isSight_16 rfl (lv_at hl 2 rfl) ?_
    refine lv_iconst (v := 2) hx hb dX12_isSight_17 (by decide) ?_
    refine lv_iadd hx hb dX12_isSight_18 ?_
    obtain ⟨r3, k4, hf⟩ := bd_some hf
    refine w_goI hw (w_runV (rest := []) C hw (zX12_told _ _ st a1 (a2 + (2 : Int32)) r3 k4) (by decide) (EM_0 X _ _) rfl km_X12_367 ki_yX12_told kv_X12_told kz_X12 kc_X12_told rfl ok_yX12_told ⟨Nat.le_of_ble_eq_true rfl, Nat.le_of_ble_eq_true rfl⟩ rfl rfl rfl rfl hl.1 (Nat.le_of_ble_eq_true rfl) dX12_isSight_19 ⟨Nat.zero_le _, Nat.zero_le _⟩) (fun H locs hw => ?_)
    refine lv_istore_n (lv' := [(3, .int r3), (0, .ref (xq X 0)), (1, .int a1), (2, .int a2)]) hx hb dX12_isSight_22 rfl hl (by decide) rfl (fun ls hl => ?_)
    refine lv_aload_n hx hb dX12_isSight_23 rfl (lv_at hl 1 rfl) ?_
    refine lv_iload_n hx hb dX12_isSight_24 rfl (lv_at hl 2 rfl) ?_
    refine lv_iload_n hx hb dX12_isSight_25 rfl (lv_at hl 3 rfl) ?_
    refine lv_iconst (v := 3) hx hb dX12_isSight_26 (by decide) ?_
    refine lv_iadd hx hb dX12_isSight_27 ?_
    obtain ⟨r5, k6, hf⟩ := bd_some hf
    refine w_goI hw (w_runV (rest := []) C hw (zX12_told _ _ st a1 (a2 + (3 : Int32)) r5 k6) (by decide) (EM_0 X _ _) rfl km_X12_367 ki_yX12_told kv_X12_told kz_X12 kc_X12_told rfl ok_yX12_told ⟨Nat.le_of_ble_eq_true rfl, Nat.le_of_ble_eq_true rfl⟩ rfl rfl rfl rfl hl.1 (Nat.le_of_ble_eq_true rfl) dX12_isSight_28 ⟨Nat.zero_le _, Nat.zero_le _⟩) (fun H locs hw => ?_)
    refine lv_istore (lv' := [(4, .int r5), (3, .int r3), (0, .ref (xq X 0)), (1, .int a1), (2, .int a2)]) hx hb dX12_isSight_31 hl (by decide) rfl (fun ls hl => ?_)
    refine lv_aload_n hx hb dX12_isSight_33 rfl (lv_at hl 2 rfl) ?_
    refine lv_iload_n hx hb dX12_isSight_34 rfl (lv_at hl 3 rfl) ?_
    refine lv_iload_n hx hb dX12_isSight_35 rfl (lv_at hl 4 rfl) ?_
    obtain ⟨r7, k8, hf⟩ := bd_some hf
    refine w_goI hw (w_runV (rest := []) C hw (zX12_told _ _ st a1 a2 r7 k8) (by decide) (EM_0 X _ _) rfl km_X12_367 ki_yX12_told kv_X12_told kz_X12 kc_X12_told rfl ok_yX12_told ⟨Nat.le_of_ble_eq_true rfl, Nat.le_of_ble_eq_true rfl⟩ rfl rfl rfl rfl hl.1 (Nat.le_of_ble_eq_true rfl) dX12_isSight_36 ⟨Nat.zero_le _, Nat.zero_le _⟩) (fun H locs hw => ?_)
    refine lv_iconst (v := 0) hx hb dX12_isSight_39 (by decide) ?_
    refine lv_bipush (v := 19) hx hb dX12_isSight_40 (by decide) ?_
    refine w_goI hw (w_runS (rest := []) C hw (zX12_in _ _ st r7 (0 : Int32) (19 : Int32)) km_X12_147 kt_yX12_in kz_X12 kc_X12_in ok_yX12_in ⟨Nat.le_of_ble_eq_true rfl, Nat.le_of_ble_eq_true rfl⟩ rfl rfl rfl rfl hl.1 (Nat.le_of_ble_eq_true rfl) dX12_isSight_42 ⟨Nat.zero_le _, Nat.zero_le _⟩) (fun H locs hw => ?_)
    refine lv_if_eq (tgt := 101) hx hb dX12_isSight_45 (by decide) (fun c9 => ?_) (fun c9 => ?_)
    · replace hf := ite_t hf c9
      refine lv_iconst (v := 0) hx hb dX12_isSight_101 (by decide) ?_
      exact w_zret (b := false) C hw hr rfl (Option.some.inj hf) rfl dX12_isSight_102
    · replace hf := ite_f hf c9
      refine lv_aload_n hx hb dX12_isSight_48 rfl (lv_at hl 2 rfl) ?_
      refine lv_iload_n hx hb dX12_isSight_49 rfl (lv_at hl 3 rfl) ?_
      refine lv_iload_n hx hb dX12_isSight_50 rfl (lv_at hl 4 rfl) ?_
      refine lv_iconst (v := 1) hx hb dX12_isSight_51 (by decide) ?_
      refine lv_iadd hx hb dX12_isSight_52 ?_
      obtain ⟨r10, k11, hf⟩ := bd_some hf
      refine w_goI hw (w_runV (rest := []) C hw (zX12_told _ _ st a1 (a2 + (1 : Int32)) r10 k11) (by decide) (EM_0 X _ _) rfl km_X12_367 ki_yX12_told kv_X12_told kz_X12 kc_X12_told rfl ok_yX12_told ⟨Nat.le_of_ble_eq_true rfl, Nat.le_of_ble_eq_true rfl⟩ rfl rfl rfl rfl hl.1 (Nat.le_of_ble_eq_true rfl) dX12_isSight_53 ⟨Nat.zero_le _, Nat.zero_le _⟩) (fun H locs hw => ?_)
      refine lv_iconst (v := 0) hx hb dX12_isSight_56 (by decide) ?_
      refine lv_bipush (v := 19) hx hb dX12_isSight_57 (by decide) ?_
      refine w_goI hw (w_runS (rest := []) C hw (zX12_in _ _ st r10 (0 : Int32) (19 : Int32)) km_X12_147 kt_yX12_in kz_X12 kc_X12_in ok_yX12_in ⟨Nat.le_of_ble_eq_true rfl, Nat.le_of_ble_eq_true rfl⟩ rfl rfl rfl rfl hl.1 (Nat.le_of_ble_eq_true rfl) dX12_isSight_59 ⟨Nat.zero_le _, Nat.zero_le _⟩) (fun H locs hw => ?_)
      refine lv_if_eq (tgt := 101) hx hb dX12_isSight_62 (by decide) (fun c12 => ?_) (fun c12 => ?_)
      · replace hf := ite_t hf c12
        refine lv_iconst (v := 0) hx hb dX12_isSight_101 (by decide) ?_
        exact w_zret (b := false) C hw hr rfl (Option.some.inj hf) rfl dX12_isSight_102
      · replace hf := ite_f hf c12
        refine lv_iload_n hx hb dX12_isSight_65 rfl (lv_at hl 1 rfl) ?_
        refine lv_bipush (v := -9) hx hb dX12_isSight_66 (by decide) ?_
        refine lv_bipush (v := 9) hx hb dX12_isSight_68 (by decide) ?_
        refine w_goI hw (w_runS (rest := []) C hw (zX12_in _ _ st r3 (-9 : Int32) (9 : Int32)) km_X12_147 kt_yX12_in kz_X12 kc_X12_in ok_yX12_in ⟨Nat.le_of_ble_eq_true rfl, Nat.le_of_ble_eq_true rfl⟩ rfl rfl rfl rfl hl.1 (Nat.le_of_ble_eq_true rfl) dX12_isSight_70 ⟨Nat.zero_le _, Nat.zero_le _⟩) (fun H locs hw => ?_)
        refine lv_if_eq (tgt := 101) hx hb dX12_isSight_73 (by decide) (fun c13 => ?_) (fun c13 => ?_)
        · replace hf := ite_t hf c13
          refine lv_iconst (v := 0) hx hb dX12_isSight_101 (by decide) ?_
          exact w_zret (b := false) C hw hr rfl (Option.some.inj hf) rfl dX12_isSight_102
        · replace hf := ite_f hf c13
          refine lv_iload hx hb dX12_isSight_76 (lv_at hl 0 rfl) ?_
          refine lv_bipush (v := -9) hx hb dX12_isSight_78 (by decide) ?_
          refine lv_bipush (v := 9) hx hb dX12_isSight_80 (by decide) ?_
          refine w_goI hw (w_runS (rest := []) C hw (zX12_in _ _ st r5 (-9 : Int32) (9 : Int32)) km_X12_147 kt_yX12_in kz_X12 kc_X12_in ok_yX12_in ⟨Nat.le_of_ble_eq_true rfl, Nat.le_of_ble_eq_true rfl⟩ rfl rfl rfl rfl hl.1 (Nat.le_of_ble_eq_true rfl) dX12_isSight_82 ⟨Nat.zero_le _, Nat.zero_le _⟩) (fun H locs hw => ?_)
          refine lv_if_eq (tgt := 101) hx hb dX12_isSight_85 (by decide) (fun c14 => ?_) (fun c14 => ?_)
          · replace hf := ite_t hf c14
            refine lv_iconst (v := 0) hx hb dX12_isSight_101 (by decide) ?_
            exact w_zret (b := false) C hw hr rfl (Option.some.inj hf) rfl dX12_isSight_102
          · replace hf := ite_f hf c14
            refine lv_iload_n hx hb dX12_isSight_88 rfl (lv_at hl 1 rfl) ?_
            refine lv_if_ne (tgt := 97) hx hb dX12_isSight_89 (by decide) (fun c15 => ?_) (fun c15 => ?_)
            · replace hf := ite_f hf c15
              refine lv_iconst (v := 1) hx hb dX12_isSight_97 (by decide) ?_
              refine lv_goto (tgt := 102) hx hb dX12_isSight_98 (by decide) ?_
              exact w_zret (b := true) C hw hr rfl (Option.some.inj hf) rfl dX12_isSight_102
            · replace hf := ite_t hf c15
              refine lv_iload hx hb dX12_isSight_92 (lv_at hl 0 rfl) ?_
              refine lv_if_eq (tgt := 101) hx hb dX12_isSight_94 (by decide) (fun c16 => ?_) (fun c16 => ?_)
              · replace hf := ite_t hf c16
                refine lv_iconst (v := 0) hx hb dX12_isSight_101 (by decide) ?_
                exact w_zret (b := false) C hw hr rfl (Option.some.inj hf) rfl dX12_isSight_102
              · replace hf := ite_f hf c16
                refine lv_iconst (v := 1) hx hb dX12_isSight_97 (by decide) ?_
                refine lv_goto (tgt := 102) hx hb dX12_isSight_98 (by decide) ?_
                exact w_zret (b := true) C hw hr rfl (Option.some.inj hf) rfl dX12_isSight_102
  · replace hf := ite_f hf c2
    refine lv_iconst (v := 0) hx hb dX12_isSight_12 (by decide) ?_
    exact w_zret (b := false) C hw hr rfl (Option.some.inj hf) rfl dX12_isSight_13
theorem dX12_isOnLine_0 : decode cX12_isOnLine 0 = .ok (.iconst 0, 1) := by decide +kernel
theorem dX12_isOnLine_1 : decode cX12_isOnLine 1 = .ok (.istore 5, 2) := by decide +kernel
theorem dX12_isOnLine_3 : decode cX12_isOnLine 3 = .ok (.iload 5, 2) := by decide +kernel
theorem dX12_isOnLine_5 : decode cX12_isOnLine 5 = .ok (.bipush 20, 2) := by decide +kernel
theorem dX12_isOnLine_7 : decode cX12_isOnLine 7 = .ok (.if_icmp .ge 58, 3) := by decide +kernel
theorem dX12_isOnLine_10 : decode cX12_isOnLine 10 = .ok (.aload_n 0, 1) := by decide +kernel
theorem dX12_isOnLine_11 : decode cX12_isOnLine 11 = .ok (.iload_n 1, 1) := by decide +kernel
theorem dX12_isOnLine_12 : decode cX12_isOnLine 12 = .ok (.iload_n 2, 1) := by decide +kernel
theorem dX12_isOnLine_13 : decode cX12_isOnLine 13 = .ok (.invokevirtual 367, 3) := by decide +kernel
theorem dX12_isOnLine_16 : decode cX12_isOnLine 16 = .ok (.iload 5, 2) := by decide +kernel
theorem dX12_isOnLine_18 : decode cX12_isOnLine 18 = .ok (.aload_n 0, 1) := by decide +kernel
theorem dX12_isOnLine_19 : decode cX12_isOnLine 19 = .ok (.iload_n 1, 1) := by decide +kernel
theorem dX12_isOnLine_20 : decode cX12_isOnLine 20 = .ok (.iload_n 2, 1) := by decide +kernel
theorem dX12_isOnLine_21 : decode cX12_isOnLine 21 = .ok (.iconst 2, 1) := by decide +kernel
theorem dX12_isOnLine_22 : decode cX12_isOnLine 22 = .ok (.iadd, 1) := by decide +kernel
theorem dX12_isOnLine_23 : decode cX12_isOnLine 23 = .ok (.invokevirtual 367, 3) := by decide +kernel
theorem dX12_isOnLine_26 : decode cX12_isOnLine 26 = .ok (.imul, 1) := by decide +kernel
theorem dX12_isOnLine_27 : decode cX12_isOnLine 27 = .ok (.iadd, 1) := by decide +kernel
theorem dX12_isOnLine_28 : decode cX12_isOnLine 28 = .ok (.iload_n 3, 1) := by decide +kernel
theorem dX12_isOnLine_29 : decode cX12_isOnLine 29 = .ok (.if_icmp .ne 30, 3) := by decide +kernel
theorem dX12_isOnLine_32 : decode cX12_isOnLine 32 = .ok (.aload_n 0, 1) := by decide +kernel
theorem dX12_isOnLine_33 : decode cX12_isOnLine 33 = .ok (.iload_n 1, 1) := by decide +kernel
theorem dX12_isOnLine_34 : decode cX12_isOnLine 34 = .ok (.iload_n 2, 1) := by decide +kernel
theorem dX12_isOnLine_35 : decode cX12_isOnLine 35 = .ok (.iconst 1, 1) := by decide +kernel
theorem dX12_isOnLine_36 : decode cX12_isOnLine 36 = .ok (.iadd, 1) := by decide +kernel
theorem dX12_isOnLine_37 : decode cX12_isOnLine 37 = .ok (.invokevirtual 367, 3) := by decide +kernel
theorem dX12_isOnLine_40 : decode cX12_isOnLine 40 = .ok (.iload 5, 2) := by decide +kernel
theorem dX12_isOnLine_42 : decode cX12_isOnLine 42 = .ok (.aload_n 0, 1) := by decide +kernel
theorem dX12_isOnLine_43 : decode cX12_isOnLine 43 = .ok (.iload_n 1, 1) := by decide +kernel
theorem dX12_isOnLine_44 : decode cX12_isOnLine 44 = .ok (.iload_n 2, 1) := by decide +kernel
theorem dX12_isOnLine_45 : decode cX12_isOnLine 45 = .ok (.iconst 3, 1) := by decide +kernel
theorem dX12_isOnLine_46 : decode cX12_isOnLine 46 = .ok (.iadd, 1) := by decide +kernel
theorem dX12_isOnLine_47 : decode cX12_isOnLine 47 = .ok (.invokevirtual 367, 3) := by decide +kernel
theorem dX12_isOnLine_50 : decode cX12_isOnLine 50 = .ok (.imul, 1) := by decide +kernel
theorem dX12_isOnLine_51 : decode cX12_isOnLine 51 = .ok (.iadd, 1) := by decide +kernel
theorem dX12_isOnLine_52 : decode cX12_isOnLine 52 = .ok (.iload 4, 2) := by decide +kernel
theorem dX12_isOnLine_54 : decode cX12_isOnLine 54 = .ok (.if_icmp .ne 5, 3) := by decide +kernel
theorem dX12_isOnLine_57 : decode cX12_isOnLine 57 = .ok (.iconst 1, 1) := by decide +kernel
theorem dX12_isOnLine_58 : decode cX12_isOnLine 58 = .ok (.ireturn, 1) := by decide +kernel
theorem dX12_isOnLine_59 : decode cX12_isOnLine 59 = .ok (.iinc 5 1, 3) := by decide +kernel
theorem dX12_isOnLine_62 : decode cX12_isOnLine 62 = .ok (.goto (-59), 3) := by decide +kernel
theorem dX12_isOnLine_65 : decode cX12_isOnLine 65 = .ok (.iconst 0, 1) := by decide +kernel
theorem dX12_isOnLine_66 : decode cX12_isOnLine 66 = .ok (.ireturn, 1) := by decide +kernel
theorem ok_yX12_isOnLine : yOk yX12_isOnLine 4 := ⟨by decide +kernel, by decide +kernel, by decide +kernel⟩
def fX12_isOnLine_3 (n : Nat) (st : St) : Nat → Int32 → Int32 → Int32 → Int32 → Int32 → Option (Bool)
  | 0, _, _, _, _, _ => none
  | k + 1, v1, v2, v3, v4, v5 => if (20 : Int32) ≤ v5 then (some false) else ((fX12_told st v1 v2).bind (fun r2 => (fX12_told st v1 (v2 + (2 : Int32))).bind (fun r4 => if r2 + (v5 * r4) = v3 then ((fX12_told st v1 (v2 + (1 : Int32))).bind (fun r9 => (fX12_told st v1 (v2 + (3 : Int32))).bind (fun r11 => if r9 + (v5 * r11) = v4 then (some true) else (bnd (v5 + (1 : Int32)) (fun x14 => fX12_isOnLine_3 n st k v1 v2 v3 v4 x14))))) else (bnd (v5 + (1 : Int32)) (fun x7 => fX12_isOnLine_3 n st k v1 v2 v3 v4 x7)))))
set_option maxHeartbeats 4000000 in
theorem tX12_isOnLine_3 {p : Program} {l : Launch} {e : Env} {s : State} {m : MethodId} {args : Array Value} {below : List Frame} {meth : Method} {c : Code} {X : WX} (C : Amb 43 X p s m args meth c cX12_isOnLine 6 RX12) (hr : meth.sig.returnType = some .boolean) {R : Bool} {n : Nat} {st : St} : ∀ (k : Nat) (v1 : Int32) (v2 : Int32) (v3 : Int32) (v4 : Int32) (v5 : Int32) (H : Heap) (locs : List Loc) (ls : Array Slot), Wd EM 43 X s.heap st H locs → lv_has ls 6 [(0, .ref (xq X 0)), (1, .int v1), (2, .int v2), (3, .int v3), (4, .int v4), (5, .int v5)] → fX12_isOnLine_3 n st k v1 v2 v3 v4 v5 = some R → W p l e { frames := 1, cells := 0, slots := 0, locals := 22 } s m args below meth c H locs 0 0 (QI EM 43 X (bI R) st below args s) (F0 m 3 ls []) := by
  obtain ⟨hx, hb, hml, hown, hts⟩ := id C.1
  intro k
  induction k with
  | zero => intro v1 v2 v3 v4 v5 H locs ls  hw hl hf; exact absurd (show none = some R from hf) (fun z => by cases z)
  | succ k ih =>
    intro v1 v2 v3 v4 v5 H locs ls  hw hl hf
    rw [fX12_isOnLine_3] at hf
    refine lv_iload hx hb dX12_isOnLine_3 (lv_at hl 5 rfl) ?_
    refine lv_bipush (v := 20) hx hb dX12_isOnLine_5 (by decide) ?_
    refine lv_icmp_ge (tgt := 65) hx hb dX12_isOnLine_7 (by decide) (fun c1 => ?_) (fun c1 => ?_)
    · replace hf := ite_t hf c1
      refine lv_iconst (v := 0) hx hb dX12_isOnLine_65 (by decide) ?_
      exact w_zret (b := false) C hw hr rfl (Option.some.inj hf) rfl dX12_isOnLine_66
    · replace hf := ite_f hf c1
      refine lv_aload_n hx hb dX12_isOnLine_10 rfl (lv_at hl 0 rfl) ?_
      refine lv_iload_n hx hb dX12_isOnLine_11 rfl (lv_at hl 1 rfl) ?_
      refine lv_iload_n hx hb dX12_isOnLine_12 rfl (lv_at hl 2 rfl) ?_
      obtain ⟨r2, k3, hf⟩ := bd_some hf
      refine w_goI hw (w_runV (rest := []) C hw (zX12_told _ _ st v1 v2 r2 k3) (by decide) (EM_0 X _ _) rfl km_X12_367 ki_yX12_told kv_X12_told kz_X12 kc_X12_told rfl ok_yX12_told ⟨Nat.le_of_ble_eq_true rfl, Nat.le_of_ble_eq_true rfl⟩ rfl rfl rfl rfl hl.1 (Nat.le_of_ble_eq_true rfl) dX12_isOnLine_13 ⟨Nat.zero_le _, Nat.zero_le _⟩) (fun H locs hw => ?_)
      refine lv_iload hx hb dX12_isOnLine_16 (lv_at hl 5 rfl) ?_
      refine lv_aload_n hx hb dX12_isOnLine_18 rfl (lv_at hl 0 rfl) ?_
      refine lv_iload_n hx hb dX12_isOnLine_19 rfl (lv_at hl 1 rfl) ?_
      refine lv_iload_n hx hb dX12_isOnLine_20 rfl (lv_at hl 2 rfl) ?_
      refine lv_iconst (v := 2) hx hb dX12_isOnLine_21 (by decide) ?_
      refine lv_iadd hx hb dX12_isOnLine_22 ?_
      obtain ⟨r4, k5, hf⟩ := bd_some hf
      refine w_goI hw (w_runV (rest := [.int v5, .int r2]) C hw (zX12_told _ _ st v1 (v2 + (2 : Int32)) r4 k5) (by decide) (EM_0 X _ _) rfl km_X12_367 ki_yX12_told kv_X12_told kz_X12 kc_X12_told rfl ok_yX12_told ⟨Nat.le_of_ble_eq_true rfl, Nat.le_of_ble_eq_true rfl⟩ rfl rfl rfl rfl hl.1 (Nat.le_of_ble_eq_true rfl) dX12_isOnLine_23 ⟨Nat.zero_le _, Nat.zero_le _⟩) (fun H locs hw => ?_)
      refine lv_imul hx hb dX12_isOnLine_26 ?_
      refine lv_iadd hx hb dX12_isOnLine_27 ?_
      refine lv_iload_n hx hb dX12_isOnLine_28 rfl (lv_at hl 3 rfl) ?_
      refine lv_icmp_ne (tgt := 59) hx hb dX12_isOnLine_29 (by decide) (fun c6 => ?_) (fun c6 => ?_)
      · replace hf := ite_f hf c6
        obtain ⟨x7, e8⟩ : ∃ z : Int32, z = v5 + (1 : Int32) := ⟨_, rfl⟩
        replace hf := bnd_nm hf e8
        refine lv_iinc (v := x7) (lv' := [(5, .int x7), (0, .ref (xq X 0)), (1, .int v1), (2, .int v2), (3, .int v3), (4, .int v4)]) hx hb dX12_isOnLine_59 hl (k := 5) rfl (by rw [e8]; rfl) (by decide) rfl (fun ls hl => ?_)
        refine lv_goto (tgt := 3) hx hb dX12_isOnLine_62 (by decide) ?_
        exact ih v1 v2 v3 v4 x7 _ _ _ hw (lv_sub hl [1, 2, 3, 4, 5, 0] rfl) hf
      · replace hf := ite_t hf c6
        refine lv_aload_n hx hb dX12_isOnLine_32 rfl (lv_at hl 0 rfl) ?_
        refine lv_iload_n hx hb dX12_isOnLine_33 rfl (lv_at hl 1 rfl) ?_
        refine lv_iload_n hx hb dX12_isOnLine_34 rfl (lv_at hl 2 rfl) ?_
        refine lv_iconst (v := 1) hx hb dX12_isOnLine_35 (by decide) ?_
        refine lv_iadd hx hb dX12_isOnLine_36 ?_
        obtain ⟨r9, k10, hf⟩ := bd_some hf
        refine w_goI hw (w_runV (rest := []) C hw (zX12_told _ _ st v1 (v2 + (1 : Int32)) r9 k10) (by decide) (EM_0 X _ _) rfl km_X12_367 ki_yX12_told kv_X12_told kz_X12 kc_X12_told rfl ok_yX12_told ⟨Nat.le_of_ble_eq_true rfl, Nat.le_of_ble_eq_true rfl⟩ rfl rfl rfl rfl hl.1 (Nat.le_of_ble_eq_true rfl) dX12_isOnLine_37 ⟨Nat.zero_le _, Nat.zero_le _⟩) (fun H locs hw => ?_)
        refine lv_iload hx hb dX12_isOnLine_40 (lv_at hl 5 rfl) ?_
        refine lv_aload_n hx hb dX12_isOnLine_42 rfl (lv_at hl 0 rfl) ?_
        refine lv_iload_n hx hb dX12_isOnLine_43 rfl (lv_at hl 1 rfl) ?_
        refine lv_iload_n hx hb dX12_isOnLine_44 rfl (lv_at hl 2 rfl) ?_
        refine lv_iconst (v := 3) hx hb dX12_isOnLine_45 (by decide) ?_
        refine lv_iadd hx hb dX12_isOnLine_46 ?_
        obtain ⟨r11, k12, hf⟩ := bd_some hf
        refine w_goI hw (w_runV (rest := [.int v5, .int r9]) C hw (zX12_told _ _ st v1 (v2 + (3 : Int32)) r11 k12) (by decide) (EM_0 X _ _) rfl km_X12_367 ki_yX12_told kv_X12_told kz_X12 kc_X12_told rfl ok_yX12_told ⟨Nat.le_of_ble_eq_true rfl, Nat.le_of_ble_eq_true rfl⟩ rfl rfl rfl rfl hl.1 (Nat.le_of_ble_eq_true rfl) dX12_isOnLine_47 ⟨Nat.zero_le _, Nat.zero_le _⟩) (fun H locs hw => ?_)
        refine lv_imul hx hb dX12_isOnLine_50 ?_
        refine lv_iadd hx hb dX12_isOnLine_51 ?_
        refine lv_iload hx hb dX12_isOnLine_52 (lv_at hl 4 rfl) ?_
        refine lv_icmp_ne (tgt := 59) hx hb dX12_isOnLine_54 (by decide) (fun c13 => ?_) (fun c13 => ?_)
        · replace hf := ite_f hf c13
          obtain ⟨x14, e15⟩ : ∃ z : Int32, z = v5 + (1 : Int32) := ⟨_, rfl⟩
          replace hf := bnd_nm hf e15
          refine lv_iinc (v := x14) (lv' := [(5, .int x14), (0, .ref (xq X 0)), (1, .int v1), (2, .int v2), (3, .int v3), (4, .int v4)]) hx hb dX12_isOnLine_59 hl (k := 5) rfl (by rw [e15]; rfl) (by decide) rfl (fun ls hl => ?_)
          refine lv_goto (tgt := 3) hx hb dX12_isOnLine_62 (by decide) ?_
          exact ih v1 v2 v3 v4 x14 _ _ _ hw (lv_sub hl [1, 2, 3, 4, 5, 0] rfl) hf
        · replace hf := ite_t hf c13
          refine lv_iconst (v := 1) hx hb dX12_isOnLine_57 (by decide) ?_
          exact w_zret (b := true) C hw hr rfl (Option.some.inj hf) rfl dX12_isOnLine_58
def fX12_isOnLine (n : Nat) (st : St) (a1 : Int32) (a2 : Int32) (a3 : Int32) (a4 : Int32) : Option (Bool) := fX12_isOnLine_3 n st n a1 a2 a3 a4 (0 : Int32)
set_option maxHeartbeats 4000000 in
theorem zX12_isOnLine (l : Launch) (X : WX) (n : Nat) (st : St) (a1 : Int32) (a2 : Int32) (a3 : Int32) (a4 : Int32) (R : Bool) (hf : fX12_isOnLine n st a1 a2 a3 a4 = some R) : CtI l yX12_isOnLine cX12_isOnLine 6 .boolean ({ frames := 1, cells := 0, slots := 0, locals := 22 }) EM 43 X [.ref (xq X 0), .int a1, .int a2, .int a3, .int a4] st (bI R) st := by
  refine ct_in (own := RX12) (by decide +kernel) rfl (Nat.le_of_ble_eq_true rfl) (fun p e s m below meth c C hr hw ls hl => ?_)
  obtain ⟨hx, hb, hml, hown, hts⟩ := id C.1
  have hl : lv_has ls 6 [(0, .ref (xq X 0)), (1, .int a1), (2, .int a2), (3, .int a3), (4, .int a4)] := hl
  unfold fX12_isOnLine at hf
  refine lv_iconst (v := 0) hx hb dX12_isOnLine_0 (by decide) ?_
  refine lv_istore (lv' := [(5, .int (0 : Int32)), (0, .ref (xq X 0)), (1, .int a1), (2, .int a2), (3, .int a3), (4, .int a4)]) hx hb dX12_isOnLine_1 hl (by decide) rfl (fun ls hl => ?_)
  exact tX12_isOnLine_3 C hr n a1 a2 a3 a4 (0 : Int32) _ _ _ hw (lv_sub hl [1, 2, 3, 4, 5, 0] rfl) hf
theorem dX12_areSights_0 : decode cX12_areSights 0 = .ok (.iconst 0, 1) := by decide +kernel
theorem dX12_areSights_1 : decode cX12_areSights 1 = .ok (.istore_n 2, 1) := by decide +kernel
theorem dX12_areSights_2 : decode cX12_areSights 2 = .ok (.iload_n 2, 1) := by decide +kernel
theorem dX12_areSights_3 : decode cX12_areSights 3 = .ok (.aload_n 0, 1) := by decide +kernel
theorem dX12_areSights_4 : decode cX12_areSights 4 = .ok (.getfield 130, 3) := by decide +kernel
theorem dX12_areSights_7 : decode cX12_areSights 7 = .ok (.iload_n 1, 1) := by decide +kernel
theorem dX12_areSights_8 : decode cX12_areSights 8 = .ok (.iaload, 1) := by decide +kernel
theorem dX12_areSights_9 : decode cX12_areSights 9 = .ok (.if_icmp .ge 20, 3) := by decide +kernel
theorem dX12_areSights_12 : decode cX12_areSights 12 = .ok (.aload_n 0, 1) := by decide +kernel
theorem dX12_areSights_13 : decode cX12_areSights 13 = .ok (.iload_n 1, 1) := by decide +kernel
theorem dX12_areSights_14 : decode cX12_areSights 14 = .ok (.iload_n 2, 1) := by decide +kernel
theorem dX12_areSights_15 : decode cX12_areSights 15 = .ok (.invokevirtual 370, 3) := by decide +kernel
theorem dX12_areSights_18 : decode cX12_areSights 18 = .ok (.ifCond .ne 5, 3) := by decide +kernel
theorem dX12_areSights_21 : decode cX12_areSights 21 = .ok (.iconst 0, 1) := by decide +kernel
theorem dX12_areSights_22 : decode cX12_areSights 22 = .ok (.ireturn, 1) := by decide +kernel
theorem dX12_areSights_23 : decode cX12_areSights 23 = .ok (.iinc 2 4, 3) := by decide +kernel
theorem dX12_areSights_26 : decode cX12_areSights 26 = .ok (.goto (-24), 3) := by decide +kernel
theorem dX12_areSights_29 : decode cX12_areSights 29 = .ok (.iconst 1, 1) := by decide +kernel
theorem dX12_areSights_30 : decode cX12_areSights 30 = .ok (.ireturn, 1) := by decide +kernel
theorem ok_yX12_areSights : yOk yX12_areSights 1 := ⟨by decide +kernel, by decide +kernel, by decide +kernel⟩
def fX12_areSights_2 (n : Nat) (st : St) : Nat → Int32 → Int32 → Option (Bool)
  | 0, _, _ => none
  | k + 1, v1, v2 => gd (inB v1 6) (if gI st 40 v1.toNatClampNeg ≤ v2 then (some true) else ((fX12_isSight st v1 v2).bind (fun r3 => if bI r3 = 0 then (some false) else (bnd (v2 + (4 : Int32)) (fun x6 => fX12_areSights_2 n st k v1 x6)))))
set_option maxHeartbeats 4000000 in
theorem tX12_areSights_2 {p : Program} {l : Launch} {e : Env} {s : State} {m : MethodId} {args : Array Value} {below : List Frame} {meth : Method} {c : Code} {X : WX} (C : Amb 43 X p s m args meth c cX12_areSights 3 RX12) (hr : meth.sig.returnType = some .boolean) {R : Bool} {n : Nat} {st : St} : ∀ (k : Nat) (v1 : Int32) (v2 : Int32) (H : Heap) (locs : List Loc) (ls : Array Slot), Wd EM 43 X s.heap st H locs → lv_has ls 3 [(0, .ref (xq X 0)), (1, .int v1), (2, .int v2)] → fX12_areSights_2 n st k v1 v2 = some R → W p l e { frames := 2, cells := 0, slots := 0, locals := 46 } s m args below meth c H locs 0 0 (QI EM 43 X (bI R) st below args s) (F0 m 2 ls []) := by
  obtain ⟨hx, hb, hml, hown, hts⟩ := id C.1
  intro k
  induction k with
  | zero => intro v1 v2 H locs ls  hw hl hf; exact absurd (show none = some R from hf) (fun z => by cases z)
  | succ k ih =>
    intro v1 v2 H locs ls  hw hl hf
    rw [fX12_areSights_2] at hf
    refine lv_iload_n hx hb dX12_areSights_2 rfl (lv_at hl 2 rfl) ?_
    refine lv_aload_n hx hb dX12_areSights_3 rfl (lv_at hl 0 rfl) ?_
    refine w_get (T := TX12) C hw (by decide) 55 kf_X12_130 (EM_0 X _ _) rfl inA12 (by decide) rfl dX12_areSights_4 ?_
    refine lv_iload_n hx hb dX12_areSights_7 rfl (lv_at hl 1 rfl) ?_
    obtain ⟨h1, hf⟩ := gd_some hf
    refine w_iald C hw (by decide) (EM_40 X _ _) h1 rfl dX12_areSights_8 ?_
    refine lv_icmp_ge (tgt := 29) hx hb dX12_areSights_9 (by decide) (fun c2 => ?_) (fun c2 => ?_)
    · replace hf := ite_t hf c2
      refine lv_iconst (v := 1) hx hb dX12_areSights_29 (by decide) ?_
      exact w_zret (b := true) C hw hr rfl (Option.some.inj hf) rfl dX12_areSights_30
    · replace hf := ite_f hf c2
      refine lv_aload_n hx hb dX12_areSights_12 rfl (lv_at hl 0 rfl) ?_
      refine lv_iload_n hx hb dX12_areSights_13 rfl (lv_at hl 1 rfl) ?_
      refine lv_iload_n hx hb dX12_areSights_14 rfl (lv_at hl 2 rfl) ?_
      obtain ⟨r3, k4, hf⟩ := bd_some hf
      refine w_goI hw (w_runV (rest := []) C hw (zX12_isSight _ _ st v1 v2 r3 k4) (by decide) (EM_0 X _ _) rfl km_X12_370 ki_yX12_isSight kv_X12_isSight kz_X12 kc_X12_isSight rfl ok_yX12_isSight ⟨Nat.le_of_ble_eq_true rfl, Nat.le_of_ble_eq_true rfl⟩ rfl rfl rfl rfl hl.1 (Nat.le_of_ble_eq_true rfl) dX12_areSights_15 ⟨Nat.zero_le _, Nat.zero_le _⟩) (fun H locs hw => ?_)
      refine lv_if_ne (tgt := 23) hx hb dX12_areSights_18 (by decide) (fun c5 => ?_) (fun c5 => ?_)
      · replace hf := ite_f hf c5
        obtain ⟨x6, e7⟩ : ∃ z : Int32, z = v2 + (4 : Int32) := ⟨_, rfl⟩
        replace hf := bnd_nm hf e7
        refine lv_iinc (v := x6) (lv' := [(2, .int x6), (0, .ref (xq X 0)), (1, .int v1)]) hx hb dX12_areSights_23 hl (k := 2) rfl (by rw [e7]; rfl) (by decide) rfl (fun ls hl => ?_)
        refine lv_goto (tgt := 2) hx hb dX12_areSights_26 (by decide) ?_
        exact ih v1 x6 _ _ _ hw (lv_sub hl [1, 2, 0] rfl) hf
      · replace hf := ite_t hf c5
        refine lv_iconst (v := 0) hx hb dX12_areSights_21 (by decide) ?_
        exact w_zret (b := false) C hw hr rfl (Option.some.inj hf) rfl dX12_areSights_22
def fX12_areSights (n : Nat) (st : St) (a1 : Int32) : Option (Bool) := fX12_areSights_2 n st n a1 (0 : Int32)
set_option maxHeartbeats 4000000 in
theorem zX12_areSights (l : Launch) (X : WX) (n : Nat) (st : St) (a1 : Int32) (R : Bool) (hf : fX12_areSights n st a1 = some R) : CtI l yX12_areSights cX12_areSights 3 .boolean ({ frames := 2, cells := 0, slots := 0, locals := 46 }) EM 43 X [.ref (xq X 0), .int a1] st (bI R) st := by
  refine ct_in (own := RX12) (by decide +kernel) rfl (Nat.le_of_ble_eq_true rfl) (fun p e s m below meth c C hr hw ls hl => ?_)
  obtain ⟨hx, hb, hml, hown, hts⟩ := id C.1
  have hl : lv_has ls 3 [(0, .ref (xq X 0)), (1, .int a1)] := hl
  unfold fX12_areSights at hf
  refine lv_iconst (v := 0) hx hb dX12_areSights_0 (by decide) ?_
  refine lv_istore_n (lv' := [(2, .int (0 : Int32)), (0, .ref (xq X 0)), (1, .int a1)]) hx hb dX12_areSights_1 rfl hl (by decide) rfl (fun ls hl => ?_)
  exact tX12_areSights_2 C hr n a1 (0 : Int32) _ _ _ hw (lv_sub hl [1, 2, 0] rfl) hf
theorem dX12_mayBeAt_0 : decode cX12_mayBeAt 0 = .ok (.iconst 0, 1) := by decide +kernel
theorem dX12_mayBeAt_1 : decode cX12_mayBeAt 1 = .ok (.istore_n 3, 1) := by decide +kernel
theorem dX12_mayBeAt_2 : decode cX12_mayBeAt 2 = .ok (.iload_n 3, 1) := by decide +kernel
theorem dX12_mayBeAt_3 : decode cX12_mayBeAt 3 = .ok (.aload_n 0, 1) := by decide +kernel
theorem dX12_mayBeAt_4 : decode cX12_mayBeAt 4 = .ok (.getfield 130, 3) := by decide +kernel
theorem dX12_mayBeAt_7 : decode cX12_mayBeAt 7 = .ok (.iload_n 1, 1) := by decide +kernel
theorem dX12_mayBeAt_8 : decode cX12_mayBeAt 8 = .ok (.iaload, 1) := by decide +kernel
theorem dX12_mayBeAt_9 : decode cX12_mayBeAt 9 = .ok (.if_icmp .ge 28, 3) := by decide +kernel
theorem dX12_mayBeAt_12 : decode cX12_mayBeAt 12 = .ok (.aload_n 0, 1) := by decide +kernel
theorem dX12_mayBeAt_13 : decode cX12_mayBeAt 13 = .ok (.iload_n 1, 1) := by decide +kernel
theorem dX12_mayBeAt_14 : decode cX12_mayBeAt 14 = .ok (.iload_n 3, 1) := by decide +kernel
theorem dX12_mayBeAt_15 : decode cX12_mayBeAt 15 = .ok (.iload_n 2, 1) := by decide +kernel
theorem dX12_mayBeAt_16 : decode cX12_mayBeAt 16 = .ok (.bipush 20, 2) := by decide +kernel
theorem dX12_mayBeAt_18 : decode cX12_mayBeAt 18 = .ok (.irem, 1) := by decide +kernel
theorem dX12_mayBeAt_19 : decode cX12_mayBeAt 19 = .ok (.iload_n 2, 1) := by decide +kernel
theorem dX12_mayBeAt_20 : decode cX12_mayBeAt 20 = .ok (.bipush 20, 2) := by decide +kernel
theorem dX12_mayBeAt_22 : decode cX12_mayBeAt 22 = .ok (.idiv, 1) := by decide +kernel
theorem dX12_mayBeAt_23 : decode cX12_mayBeAt 23 = .ok (.invokevirtual 373, 3) := by decide +kernel
theorem dX12_mayBeAt_26 : decode cX12_mayBeAt 26 = .ok (.ifCond .ne 5, 3) := by decide +kernel
theorem dX12_mayBeAt_29 : decode cX12_mayBeAt 29 = .ok (.iconst 0, 1) := by decide +kernel
theorem dX12_mayBeAt_30 : decode cX12_mayBeAt 30 = .ok (.ireturn, 1) := by decide +kernel
theorem dX12_mayBeAt_31 : decode cX12_mayBeAt 31 = .ok (.iinc 3 4, 3) := by decide +kernel
theorem dX12_mayBeAt_34 : decode cX12_mayBeAt 34 = .ok (.goto (-32), 3) := by decide +kernel
theorem dX12_mayBeAt_37 : decode cX12_mayBeAt 37 = .ok (.iconst 1, 1) := by decide +kernel
theorem dX12_mayBeAt_38 : decode cX12_mayBeAt 38 = .ok (.ireturn, 1) := by decide +kernel
theorem ok_yX12_mayBeAt : yOk yX12_mayBeAt 2 := ⟨by decide +kernel, by decide +kernel, by decide +kernel⟩
def fX12_mayBeAt_2 (n : Nat) (st : St) : Nat → Int32 → Int32 → Int32 → Option (Bool)
  | 0, _, _, _ => none
  | k + 1, v1, v2, v3 => gd (inB v1 6) (if gI st 40 v1.toNatClampNeg ≤ v3 then (some true) else ((fX12_isOnLine n st v1 v3 (rmI v2 (20 : Int32)) (v2 / (20 : Int32))).bind (fun r3 => if bI r3 = 0 then (some false) else (bnd (v3 + (4 : Int32)) (fun x6 => fX12_mayBeAt_2 n st k v1 v2 x6)))))
set_option maxHeartbeats 4000000 in
theorem tX12_mayBeAt_2 {p : Program} {l : Launch} {e : Env} {s : State} {m : MethodId} {args : Array Value} {below : List Frame} {meth : Method} {c : Code} {X : WX} (C : Amb 43 X p s m args meth c cX12_mayBeAt 4 RX12) (hr : meth.sig.returnType = some .boolean) {R : Bool} {n : Nat} {st : St} : ∀ (k : Nat) (v1 : Int32) (v2 : Int32) (v3 : Int32) (H : Heap) (locs : List Loc) (ls : Array Slot), Wd EM 43 X s.heap st H locs → lv_has ls 4 [(0, .ref (xq X 0)), (1, .int v1), (2, .int v2), (3, .int v3)] → fX12_mayBeAt_2 n st k v1 v2 v3 = some R → W p l e { frames := 2, cells := 0, slots := 0, locals := 47 } s m args below meth c H locs 0 0 (QI EM 43 X (bI R) st below args s) (F0 m 2 ls []) := by
  obtain ⟨hx, hb, hml, hown, hts⟩ := id C.1
  intro k
  induction k with
  | zero => intro v1 v2 v3 H locs ls  hw hl hf; exact absurd (show none = some R from hf) (fun z => by cases z)
  | succ k ih =>
    intro v1 v2 v3 H locs ls  hw hl hf
    rw [fX12_mayBeAt_2] at hf
    refine lv_iload_n hx hb dX12_mayBeAt_2 rfl (lv_at hl 3 rfl) ?_
    refine lv_aload_n hx hb dX12_mayBeAt_3 rfl (lv_at hl 0 rfl) ?_
    refine w_get (T := TX12) C hw (by decide) 55 kf_X12_130 (EM_0 X _ _) rfl inA12 (by decide) rfl dX12_mayBeAt_4 ?_
    refine lv_iload_n hx hb dX12_mayBeAt_7 rfl (lv_at hl 1 rfl) ?_
    obtain ⟨h1, hf⟩ := gd_some hf
    refine w_iald C hw (by decide) (EM_40 X _ _) h1 rfl dX12_mayBeAt_8 ?_
    refine lv_icmp_ge (tgt := 37) hx hb dX12_mayBeAt_9 (by decide) (fun c2 => ?_) (fun c2 => ?_)
    · replace hf := ite_t hf c2
      refine lv_iconst (v := 1) hx hb dX12_mayBeAt_37 (by decide) ?_
      exact w_zret (b := true) C hw hr rfl (Option.some.inj hf) rfl dX12_mayBeAt_38
    · replace hf := ite_f hf c2
      refine lv_aload_n hx hb dX12_mayBeAt_12 rfl (lv_at hl 0 rfl) ?_
      refine lv_iload_n hx hb dX12_mayBeAt_13 rfl (lv_at hl 1 rfl) ?_
      refine lv_iload_n hx hb dX12_mayBeAt_14 rfl (lv_at hl 3 rfl) ?_
      refine lv_iload_n hx hb dX12_mayBeAt_15 rfl (lv_at hl 2 rfl) ?_
      refine lv_bipush (v := 20) hx hb dX12_mayBeAt_16 (by decide) ?_
      refine w_irem C (by decide) dX12_mayBeAt_18 ?_
      refine lv_iload_n hx hb dX12_mayBeAt_19 rfl (lv_at hl 2 rfl) ?_
      refine lv_bipush (v := 20) hx hb dX12_mayBeAt_20 (by decide) ?_
      refine lv_idiv hx hb dX12_mayBeAt_22 (by decide) ?_
      obtain ⟨r3, k4, hf⟩ := bd_some hf
      refine w_goI hw (w_runV (rest := []) C hw (zX12_isOnLine _ _ n st v1 v3 (rmI v2 (20 : Int32)) (v2 / (20 : Int32)) r3 k4) (by decide) (EM_0 X _ _) rfl km_X12_373 ki_yX12_isOnLine kv_X12_isOnLine kz_X12 kc_X12_isOnLine rfl ok_yX12_isOnLine ⟨Nat.le_of_ble_eq_true rfl, Nat.le_of_ble_eq_true rfl⟩ rfl rfl rfl rfl hl.1 (Nat.le_of_ble_eq_true rfl) dX12_mayBeAt_23 ⟨Nat.zero_le _, Nat.zero_le _⟩) (fun H locs hw => ?_)
      refine lv_if_ne (tgt := 31) hx hb dX12_mayBeAt_26 (by decide) (fun c5 => ?_) (fun c5 => ?_)
      · replace hf := ite_f hf c5
        obtain ⟨x6, e7⟩ : ∃ z : Int32, z = v3 + (4 : Int32) := ⟨_, rfl⟩
        replace hf := bnd_nm hf e7
        refine lv_iinc (v := x6) (lv' := [(3, .int x6), (0, .ref (xq X 0)), (1, .int v1), (2, .int v2)]) hx hb dX12_mayBeAt_31 hl (k := 3) rfl (by rw [e7]; rfl) (by decide) rfl (fun ls hl => ?_)
        refine lv_goto (tgt := 2) hx hb dX12_mayBeAt_34 (by decide) ?_
        exact ih v1 v2 x6 _ _ _ hw (lv_sub hl [1, 2, 3, 0] rfl) hf
      · replace hf := ite_t hf c5
        refine lv_iconst (v := 0) hx hb dX12_mayBeAt_29 (by decide) ?_
        exact w_zret (b := false) C hw hr rfl (Option.some.inj hf) rfl dX12_mayBeAt_30
def fX12_mayBeAt (n : Nat) (st : St) (a1 : Int32) (a2 : Int32) : Option (Bool) := fX12_mayBeAt_2 n st n a1 a2 (0 : Int32)
set_option maxHeartbeats 4000000 in
theorem zX12_mayBeAt (l : Launch) (X : WX) (n : Nat) (st : St) (a1 : Int32) (a2 : Int32) (R : Bool) (hf : fX12_mayBeAt n st a1 a2 = some R) : CtI l yX12_mayBeAt cX12_mayBeAt 4 .boolean ({ frames := 2, cells := 0, slots := 0, locals := 47 }) EM 43 X [.ref (xq X 0), .int a1, .int a2] st (bI R) st := by
  refine ct_in (own := RX12) (by decide +kernel) rfl (Nat.le_of_ble_eq_true rfl) (fun p e s m below meth c C hr hw ls hl => ?_)
  obtain ⟨hx, hb, hml, hown, hts⟩ := id C.1
  have hl : lv_has ls 4 [(0, .ref (xq X 0)), (1, .int a1), (2, .int a2)] := hl
  unfold fX12_mayBeAt at hf
  refine lv_iconst (v := 0) hx hb dX12_mayBeAt_0 (by decide) ?_
  refine lv_istore_n (lv' := [(3, .int (0 : Int32)), (0, .ref (xq X 0)), (1, .int a1), (2, .int a2)]) hx hb dX12_mayBeAt_1 rfl hl (by decide) rfl (fun ls hl => ?_)
  exact tX12_mayBeAt_2 C hr n a1 a2 (0 : Int32) _ _ _ hw (lv_sub hl [1, 2, 3, 0] rfl) hf
theorem dX12_sight_0 : decode cX12_sight 0 = .ok (.iload_n 1, 1) := by decide +kernel
theorem dX12_sight_1 : decode cX12_sight 1 = .ok (.invokestatic 168, 3) := by decide +kernel
theorem dX12_sight_4 : decode cX12_sight 4 = .ok (.ifCond .eq 12, 3) := by decide +kernel
theorem dX12_sight_7 : decode cX12_sight 7 = .ok (.iload_n 2, 1) := by decide +kernel
theorem dX12_sight_8 : decode cX12_sight 8 = .ok (.iconst 0, 1) := by decide +kernel
theorem dX12_sight_9 : decode cX12_sight 9 = .ok (.iconst 3, 1) := by decide +kernel
theorem dX12_sight_10 : decode cX12_sight 10 = .ok (.invokestatic 147, 3) := by decide +kernel
theorem dX12_sight_13 : decode cX12_sight 13 = .ok (.ifCond .ne 5, 3) := by decide +kernel
theorem dX12_sight_16 : decode cX12_sight 16 = .ok (.iconst (-1), 1) := by decide +kernel
theorem dX12_sight_17 : decode cX12_sight 17 = .ok (.ireturn, 1) := by decide +kernel
theorem dX12_sight_18 : decode cX12_sight 18 = .ok (.aload_n 0, 1) := by decide +kernel
theorem dX12_sight_19 : decode cX12_sight 19 = .ok (.iload_n 1, 1) := by decide +kernel
theorem dX12_sight_20 : decode cX12_sight 20 = .ok (.iconst 0, 1) := by decide +kernel
theorem dX12_sight_21 : decode cX12_sight 21 = .ok (.invokevirtual 377, 3) := by decide +kernel
theorem dX12_sight_24 : decode cX12_sight 24 = .ok (.istore_n 3, 1) := by decide +kernel
theorem dX12_sight_25 : decode cX12_sight 25 = .ok (.iload_n 3, 1) := by decide +kernel
theorem dX12_sight_26 : decode cX12_sight 26 = .ok (.ifCond .ge 5, 3) := by decide +kernel
theorem dX12_sight_29 : decode cX12_sight 29 = .ok (.iload_n 3, 1) := by decide +kernel
theorem dX12_sight_30 : decode cX12_sight 30 = .ok (.ireturn, 1) := by decide +kernel
theorem dX12_sight_31 : decode cX12_sight 31 = .ok (.iconst 0, 1) := by decide +kernel
theorem dX12_sight_32 : decode cX12_sight 32 = .ok (.istore 4, 2) := by decide +kernel
theorem dX12_sight_34 : decode cX12_sight 34 = .ok (.bipush (-2), 2) := by decide +kernel
theorem dX12_sight_36 : decode cX12_sight 36 = .ok (.istore 5, 2) := by decide +kernel
theorem dX12_sight_38 : decode cX12_sight 38 = .ok (.iconst 0, 1) := by decide +kernel
theorem dX12_sight_39 : decode cX12_sight 39 = .ok (.istore 6, 2) := by decide +kernel
theorem dX12_sight_41 : decode cX12_sight 41 = .ok (.iconst 0, 1) := by decide +kernel
theorem dX12_sight_42 : decode cX12_sight 42 = .ok (.istore 7, 2) := by decide +kernel
theorem dX12_sight_44 : decode cX12_sight 44 = .ok (.iload 7, 2) := by decide +kernel
theorem dX12_sight_46 : decode cX12_sight 46 = .ok (.bipush 20, 2) := by decide +kernel
theorem dX12_sight_48 : decode cX12_sight 48 = .ok (.if_icmp .ge 17, 3) := by decide +kernel
theorem dX12_sight_51 : decode cX12_sight 51 = .ok (.aload_n 0, 1) := by decide +kernel
theorem dX12_sight_52 : decode cX12_sight 52 = .ok (.getfield 96, 3) := by decide +kernel
theorem dX12_sight_55 : decode cX12_sight 55 = .ok (.iload 7, 2) := by decide +kernel
theorem dX12_sight_57 : decode cX12_sight 57 = .ok (.iconst 0, 1) := by decide +kernel
theorem dX12_sight_58 : decode cX12_sight 58 = .ok (.iastore, 1) := by decide +kernel
theorem dX12_sight_59 : decode cX12_sight 59 = .ok (.iinc 7 1, 3) := by decide +kernel
theorem dX12_sight_62 : decode cX12_sight 62 = .ok (.goto (-18), 3) := by decide +kernel
theorem dX12_sight_65 : decode cX12_sight 65 = .ok (.iconst 0, 1) := by decide +kernel
theorem dX12_sight_66 : decode cX12_sight 66 = .ok (.istore 7, 2) := by decide +kernel
theorem dX12_sight_68 : decode cX12_sight 68 = .ok (.iload 7, 2) := by decide +kernel
theorem dX12_sight_70 : decode cX12_sight 70 = .ok (.sipush 400, 3) := by decide +kernel
theorem dX12_sight_73 : decode cX12_sight 73 = .ok (.if_icmp .ge 86, 3) := by decide +kernel
theorem dX12_sight_76 : decode cX12_sight 76 = .ok (.aload_n 0, 1) := by decide +kernel
theorem dX12_sight_77 : decode cX12_sight 77 = .ok (.iload_n 1, 1) := by decide +kernel
theorem dX12_sight_78 : decode cX12_sight 78 = .ok (.invokevirtual 380, 3) := by decide +kernel
theorem dX12_sight_81 : decode cX12_sight 81 = .ok (.ifCond .eq 78, 3) := by decide +kernel
theorem dX12_sight_84 : decode cX12_sight 84 = .ok (.aload_n 0, 1) := by decide +kernel
theorem dX12_sight_85 : decode cX12_sight 85 = .ok (.iload_n 1, 1) := by decide +kernel
theorem dX12_sight_86 : decode cX12_sight 86 = .ok (.iload 7, 2) := by decide +kernel
theorem dX12_sight_88 : decode cX12_sight 88 = .ok (.invokevirtual 383, 3) := by decide +kernel
theorem dX12_sight_91 : decode cX12_sight 91 = .ok (.ifCond .ne 6, 3) := by decide +kernel
theorem dX12_sight_94 : decode cX12_sight 94 = .ok (.goto 59, 3) := by decide +kernel
theorem dX12_sight_97 : decode cX12_sight 97 = .ok (.iload 4, 2) := by decide +kernel
theorem dX12_sight_99 : decode cX12_sight 99 = .ok (.ifCond .ne 7, 3) := by decide +kernel
theorem dX12_sight_102 : decode cX12_sight 102 = .ok (.iload 7, 2) := by decide +kernel
theorem dX12_sight_104 : decode cX12_sight 104 = .ok (.istore 5, 2) := by decide +kernel
theorem dX12_sight_106 : decode cX12_sight 106 = .ok (.iinc 4 1, 3) := by decide +kernel
theorem dX12_sight_109 : decode cX12_sight 109 = .ok (.aload_n 0, 1) := by decide +kernel
theorem dX12_sight_110 : decode cX12_sight 110 = .ok (.getfield 96, 3) := by decide +kernel
theorem dX12_sight_113 : decode cX12_sight 113 = .ok (.iload 7, 2) := by decide +kernel
theorem dX12_sight_115 : decode cX12_sight 115 = .ok (.bipush 20, 2) := by decide +kernel
theorem dX12_sight_117 : decode cX12_sight 117 = .ok (.irem, 1) := by decide +kernel
theorem dX12_sight_118 : decode cX12_sight 118 = .ok (.dup2, 1) := by decide +kernel
theorem dX12_sight_119 : decode cX12_sight 119 = .ok (.iaload, 1) := by decide +kernel
theorem dX12_sight_120 : decode cX12_sight 120 = .ok (.iconst 1, 1) := by decide +kernel
theorem dX12_sight_121 : decode cX12_sight 121 = .ok (.iadd, 1) := by decide +kernel
theorem dX12_sight_122 : decode cX12_sight 122 = .ok (.iastore, 1) := by decide +kernel
theorem dX12_sight_123 : decode cX12_sight 123 = .ok (.aload_n 0, 1) := by decide +kernel
theorem dX12_sight_124 : decode cX12_sight 124 = .ok (.iload 7, 2) := by decide +kernel
theorem dX12_sight_126 : decode cX12_sight 126 = .ok (.bipush 20, 2) := by decide +kernel
theorem dX12_sight_128 : decode cX12_sight 128 = .ok (.irem, 1) := by decide +kernel
theorem dX12_sight_129 : decode cX12_sight 129 = .ok (.iload 7, 2) := by decide +kernel
theorem dX12_sight_131 : decode cX12_sight 131 = .ok (.bipush 20, 2) := by decide +kernel
theorem dX12_sight_133 : decode cX12_sight 133 = .ok (.idiv, 1) := by decide +kernel
theorem dX12_sight_134 : decode cX12_sight 134 = .ok (.invokevirtual 288, 3) := by decide +kernel
theorem dX12_sight_137 : decode cX12_sight 137 = .ok (.istore 8, 2) := by decide +kernel
theorem dX12_sight_139 : decode cX12_sight 139 = .ok (.iload 8, 2) := by decide +kernel
theorem dX12_sight_141 : decode cX12_sight 141 = .ok (.ifCond .lt 12, 3) := by decide +kernel
theorem dX12_sight_144 : decode cX12_sight 144 = .ok (.iload 6, 2) := by decide +kernel
theorem dX12_sight_146 : decode cX12_sight 146 = .ok (.iconst 1, 1) := by decide +kernel
theorem dX12_sight_147 : decode cX12_sight 147 = .ok (.iload 8, 2) := by decide +kernel
theorem dX12_sight_149 : decode cX12_sight 149 = .ok (.ishl, 1) := by decide +kernel
theorem dX12_sight_150 : decode cX12_sight 150 = .ok (.ior, 1) := by decide +kernel
theorem dX12_sight_151 : decode cX12_sight 151 = .ok (.istore 6, 2) := by decide +kernel
theorem dX12_sight_153 : decode cX12_sight 153 = .ok (.iinc 7 1, 3) := by decide +kernel
theorem dX12_sight_156 : decode cX12_sight 156 = .ok (.goto (-88), 3) := by decide +kernel
theorem dX12_sight_159 : decode cX12_sight 159 = .ok (.iload_n 2, 1) := by decide +kernel
theorem dX12_sight_160 : decode cX12_sight 160 = .ok (.iconst 3, 1) := by decide +kernel
theorem dX12_sight_161 : decode cX12_sight 161 = .ok (.if_icmp .ge 25, 3) := by decide +kernel
theorem dX12_sight_164 : decode cX12_sight 164 = .ok (.iload_n 2, 1) := by decide +kernel
theorem dX12_sight_165 : decode cX12_sight 165 = .ok (.ifCond .ne 8, 3) := by decide +kernel
theorem dX12_sight_168 : decode cX12_sight 168 = .ok (.iload 4, 2) := by decide +kernel
theorem dX12_sight_170 : decode cX12_sight 170 = .ok (.goto 15, 3) := by decide +kernel
theorem dX12_sight_173 : decode cX12_sight 173 = .ok (.iload_n 2, 1) := by decide +kernel
theorem dX12_sight_174 : decode cX12_sight 174 = .ok (.iconst 1, 1) := by decide +kernel
theorem dX12_sight_175 : decode cX12_sight 175 = .ok (.if_icmp .ne 8, 3) := by decide +kernel
theorem dX12_sight_178 : decode cX12_sight 178 = .ok (.iload 5, 2) := by decide +kernel
theorem dX12_sight_180 : decode cX12_sight 180 = .ok (.goto 5, 3) := by decide +kernel
theorem dX12_sight_183 : decode cX12_sight 183 = .ok (.iload 6, 2) := by decide +kernel
theorem dX12_sight_185 : decode cX12_sight 185 = .ok (.ireturn, 1) := by decide +kernel
theorem dX12_sight_186 : decode cX12_sight 186 = .ok (.iconst 0, 1) := by decide +kernel
theorem dX12_sight_187 : decode cX12_sight 187 = .ok (.istore 7, 2) := by decide +kernel
theorem dX12_sight_189 : decode cX12_sight 189 = .ok (.iconst 1, 1) := by decide +kernel
theorem dX12_sight_190 : decode cX12_sight 190 = .ok (.istore 8, 2) := by decide +kernel
theorem dX12_sight_192 : decode cX12_sight 192 = .ok (.iload 8, 2) := by decide +kernel
theorem dX12_sight_194 : decode cX12_sight 194 = .ok (.bipush 20, 2) := by decide +kernel
theorem dX12_sight_196 : decode cX12_sight 196 = .ok (.if_icmp .ge 44, 3) := by decide +kernel
theorem dX12_sight_199 : decode cX12_sight 199 = .ok (.iconst 2, 1) := by decide +kernel
theorem dX12_sight_200 : decode cX12_sight 200 = .ok (.aload_n 0, 1) := by decide +kernel
theorem dX12_sight_201 : decode cX12_sight 201 = .ok (.getfield 96, 3) := by decide +kernel
theorem dX12_sight_204 : decode cX12_sight 204 = .ok (.iload 8, 2) := by decide +kernel
theorem dX12_sight_206 : decode cX12_sight 206 = .ok (.iaload, 1) := by decide +kernel
theorem dX12_sight_207 : decode cX12_sight 207 = .ok (.imul, 1) := by decide +kernel
theorem dX12_sight_208 : decode cX12_sight 208 = .ok (.iload 4, 2) := by decide +kernel
theorem dX12_sight_210 : decode cX12_sight 210 = .ok (.invokestatic 291, 3) := by decide +kernel
theorem dX12_sight_213 : decode cX12_sight 213 = .ok (.iconst 2, 1) := by decide +kernel
theorem dX12_sight_214 : decode cX12_sight 214 = .ok (.aload_n 0, 1) := by decide +kernel
theorem dX12_sight_215 : decode cX12_sight 215 = .ok (.getfield 96, 3) := by decide +kernel
theorem dX12_sight_218 : decode cX12_sight 218 = .ok (.iload 7, 2) := by decide +kernel
theorem dX12_sight_220 : decode cX12_sight 220 = .ok (.iaload, 1) := by decide +kernel
theorem dX12_sight_221 : decode cX12_sight 221 = .ok (.imul, 1) := by decide +kernel
theorem dX12_sight_222 : decode cX12_sight 222 = .ok (.iload 4, 2) := by decide +kernel
theorem dX12_sight_224 : decode cX12_sight 224 = .ok (.invokestatic 291, 3) := by decide +kernel
theorem dX12_sight_227 : decode cX12_sight 227 = .ok (.if_icmp .ge 7, 3) := by decide +kernel
theorem dX12_sight_230 : decode cX12_sight 230 = .ok (.iload 8, 2) := by decide +kernel
theorem dX12_sight_232 : decode cX12_sight 232 = .ok (.istore 7, 2) := by decide +kernel
theorem dX12_sight_234 : decode cX12_sight 234 = .ok (.iinc 8 1, 3) := by decide +kernel
theorem dX12_sight_237 : decode cX12_sight 237 = .ok (.goto (-45), 3) := by decide +kernel
theorem dX12_sight_240 : decode cX12_sight 240 = .ok (.iload 4, 2) := by decide +kernel
theorem dX12_sight_242 : decode cX12_sight 242 = .ok (.ifCond .ne 8, 3) := by decide +kernel
theorem dX12_sight_245 : decode cX12_sight 245 = .ok (.bipush (-2), 2) := by decide +kernel
theorem dX12_sight_247 : decode cX12_sight 247 = .ok (.goto 5, 3) := by decide +kernel
theorem dX12_sight_250 : decode cX12_sight 250 = .ok (.iload 7, 2) := by decide +kernel
theorem dX12_sight_252 : decode cX12_sight 252 = .ok (.ireturn, 1) := by decide +kernel
theorem ok_yX12_sight : yOk yX12_sight 2 := ⟨by decide +kernel, by decide +kernel, by decide +kernel⟩
def fX12_sight_192 (n : Nat) : Nat → St → Int32 → Int32 → Int32 → Option (Int32 × St)
  | 0, _, _, _, _ => none
  | k + 1, st, v4, v7, v8 => if (20 : Int32) ≤ v8 then (if v4 = 0 then (some ((-2 : Int32), st)) else (some (v7, st))) else (gd (inB v8 20) (gd (inB v7 20) (if (fX12_apart ((2 : Int32) * (gI st 29 v7.toNatClampNeg)) v4) ≤ (fX12_apart ((2 : Int32) * (gI st 29 v8.toNatClampNeg)) v4) then (bnd (v8 + (1 : Int32)) (fun x45 => fX12_sight_192 n k st v4 v7 x45)) else (bnd (v8 + (1 : Int32)) (fun x47 => fX12_sight_192 n k st v4 v8 x47)))))
set_option maxHeartbeats 4000000 in
theorem tX12_sight_192 {p : Program} {l : Launch} {e : Env} {s : State} {m : MethodId} {args : Array Value} {below : List Frame} {meth : Method} {c : Code} {X : WX} (C : Amb 43 X p s m args meth c cX12_sight 9 RX12) (hr : meth.sig.returnType = some .int) {R : Int32 × St} {n : Nat} : ∀ (k : Nat) (st : St) (v4 : Int32) (v7 : Int32) (v8 : Int32) (H : Heap) (locs : List Loc) (ls : Array Slot), Wd EM 43 X s.heap st H locs → lv_has ls 9 [(0, .ref (xq X 0)), (4, .int v4), (7, .int v7), (8, .int v8)] → fX12_sight_192 n k st v4 v7 v8 = some R → W p l e { frames := 3, cells := 0, slots := 0, locals := 70 } s m args below meth c H locs 0 0 (QI EM 43 X R.1 R.2 below args s) (F0 m 192 ls []) := by
  obtain ⟨hx, hb, hml, hown, hts⟩ := id C.1
  intro k
  induction k with
  | zero => intro st v4 v7 v8 H locs ls  hw hl hf; exact absurd (show none = some R from hf) (fun z => by cases z)
  | succ k ih =>
    intro st v4 v7 v8 H locs ls  hw hl hf
    rw [fX12_sight_192] at hf
    refine lv_iload hx hb dX12_sight_192 (lv_at hl 3 rfl) ?_
    refine lv_bipush (v := 20) hx hb dX12_sight_194 (by decide) ?_
    refine lv_icmp_ge (tgt := 240) hx hb dX12_sight_196 (by decide) (fun c40 => ?_) (fun c40 => ?_)
    · replace hf := ite_t hf c40
      refine lv_iload hx hb dX12_sight_240 (lv_at hl 1 rfl) ?_
      refine lv_if_ne (tgt := 250) hx hb dX12_sight_242 (by decide) (fun c41 => ?_) (fun c41 => ?_)
      · replace hf := ite_f hf c41
        refine lv_iload hx hb dX12_sight_250 (lv_at hl 2 rfl) ?_
        exact w_iret C hw hr (so2 hf).1 (so2 hf).2 dX12_sight_252
      · replace hf := ite_t hf c41
        refine lv_bipush (v := -2) hx hb dX12_sight_245 (by decide) ?_
        refine lv_goto (tgt := 252) hx hb dX12_sight_247 (by decide) ?_
        exact w_iret C hw hr (so2 hf).1 (so2 hf).2 dX12_sight_252
    · replace hf := ite_f hf c40
      refine lv_iconst (v := 2) hx hb dX12_sight_199 (by decide) ?_
      refine lv_aload_n hx hb dX12_sight_200 rfl (lv_at hl 0 rfl) ?_
      refine w_get (T := TX12) C hw (by decide) 40 kf_X12_96 (EM_0 X _ _) rfl inA12 (by decide) rfl dX12_sight_201 ?_
      refine lv_iload hx hb dX12_sight_204 (lv_at hl 3 rfl) ?_
      obtain ⟨h42, hf⟩ := gd_some hf
      refine w_iald C hw (by decide) (EM_29 X _ _) h42 rfl dX12_sight_206 ?_
      refine lv_imul hx hb dX12_sight_207 ?_
      refine lv_iload hx hb dX12_sight_208 (lv_at hl 1 rfl) ?_
      refine w_goI hw (w_runS (rest := []) C hw (zX12_apart _ _ st ((2 : Int32) * (gI st 29 v8.toNatClampNeg)) v4) km_X12_291 kt_yX12_apart kz_X12 kc_X12_apart ok_yX12_apart ⟨Nat.le_of_ble_eq_true rfl, Nat.le_of_ble_eq_true rfl⟩ rfl rfl rfl rfl hl.1 (Nat.le_of_ble_eq_true rfl) dX12_sight_210 ⟨Nat.zero_le _, Nat.zero_le _⟩) (fun H locs hw => ?_)
      refine lv_iconst (v := 2) hx hb dX12_sight_213 (by decide) ?_
      refine lv_aload_n hx hb dX12_sight_214 rfl (lv_at hl 0 rfl) ?_
      refine w_get (T := TX12) C hw (by decide) 40 kf_X12_96 (EM_0 X _ _) rfl inA12 (by decide) rfl dX12_sight_215 ?_
      refine lv_iload hx hb dX12_sight_218 (lv_at hl 2 rfl) ?_
      obtain ⟨h43, hf⟩ := gd_some hf
      refine w_iald C hw (by decide) (EM_29 X _ _) h43 rfl dX12_sight_220 ?_
      refine lv_imul hx hb dX12_sight_221 ?_
      refine lv_iload hx hb dX12_sight_222 (lv_at hl 1 rfl) ?_
      refine w_goI hw (w_runS (rest := [.int (fX12_apart ((2 : Int32) * (gI st 29 v8.toNatClampNeg)) v4)]) C hw (zX12_apart _ _ st ((2 : Int32) * (gI st 29 v7.toNatClampNeg)) v4) km_X12_291 kt_yX12_apart kz_X12 kc_X12_apart ok_yX12_apart ⟨Nat.le_of_ble_eq_true rfl, Nat.le_of_ble_eq_true rfl⟩ rfl rfl rfl rfl hl.1 (Nat.le_of_ble_eq_true rfl) dX12_sight_224 ⟨Nat.zero_le _, Nat.zero_le _⟩) (fun H locs hw => ?_)
      refine lv_icmp_ge (tgt := 234) hx hb dX12_sight_227 (by decide) (fun c44 => ?_) (fun c44 => ?_)
      · replace hf := ite_t hf c44
        obtain ⟨x45, e46⟩ : ∃ z : Int32, z = v8 + (1 : Int32) := ⟨_, rfl⟩
        replace hf := bnd_nm hf e46
        refine lv_iinc (v := x45) (lv' := [(8, .int x45), (0, .ref (xq X 0)), (4, .int v4), (7, .int v7)]) hx hb dX12_sight_234 hl (k := 3) rfl (by rw [e46]; rfl) (by decide) rfl (fun ls hl => ?_)
        refine lv_goto (tgt := 192) hx hb dX12_sight_237 (by decide) ?_
        exact ih st v4 v7 x45 _ _ _ hw (lv_sub hl [1, 2, 3, 0] rfl) hf
      · replace hf := ite_f hf c44
        refine lv_iload hx hb dX12_sight_230 (lv_at hl 3 rfl) ?_
        refine lv_istore (lv' := [(7, .int v8), (0, .ref (xq X 0)), (4, .int v4), (8, .int v8)]) hx hb dX12_sight_232 hl (by decide) rfl (fun ls hl => ?_)
        obtain ⟨x47, e48⟩ : ∃ z : Int32, z = v8 + (1 : Int32) := ⟨_, rfl⟩
        replace hf := bnd_nm hf e48
        refine lv_iinc (v := x47) (lv' := [(8, .int x47), (7, .int v8), (0, .ref (xq X 0)), (4, .int v4)]) hx hb dX12_sight_234 hl (k := 3) rfl (by rw [e48]; rfl) (by decide) rfl (fun ls hl => ?_)
        refine lv_goto (tgt := 192) hx hb dX12_sight_237 (by decide) ?_
        exact ih st v4 v8 x47 _ _ _ hw (lv_sub hl [2, 3, 1, 0] rfl) hf
def fX12_sight_159 (n : Nat) (st : St) (v2 : Int32) (v4 : Int32) (v5 : Int32) (v6 : Int32) : Option (Int32 × St) := if (3 : Int32) ≤ v2 then (fX12_sight_192 n n st v4 (0 : Int32) (1 : Int32)) else (if v2 = 0 then (some (v4, st)) else (if v2 = (1 : Int32) then (some (v5, st)) else (some (v6, st))))
set_option maxHeartbeats 4000000 in
theorem tX12_sight_159 {p : Program} {l : Launch} {e : Env} {s : State} {m : MethodId} {args : Array Value} {below : List Frame} {meth : Method} {c : Code} {X : WX} (C : Amb 43 X p s m args meth c cX12_sight 9 RX12) (hr : meth.sig.returnType = some .int) {R : Int32 × St} {n : Nat} : ∀ (st : St) (v2 : Int32) (v4 : Int32) (v5 : Int32) (v6 : Int32) (H : Heap) (locs : List Loc) (ls : Array Slot), Wd EM 43 X s.heap st H locs → lv_has ls 9 [(0, .ref (xq X 0)), (2, .int v2), (4, .int v4), (5, .int v5), (6, .int v6)] → fX12_sight_159 n st v2 v4 v5 v6 = some R → W p l e { frames := 3, cells := 0, slots := 0, locals := 70 } s m args below meth c H locs 0 0 (QI EM 43 X R.1 R.2 below args s) (F0 m 159 ls []) := by
  obtain ⟨hx, hb, hml, hown, hts⟩ := id C.1
  intro st v2 v4 v5 v6 H locs ls  hw hl hf
  unfold fX12_sight_159 at hf
  refine lv_iload_n hx hb dX12_sight_159 rfl (lv_at hl 1 rfl) ?_
  refine lv_iconst (v := 3) hx hb dX12_sight_160 (by decide) ?_
  refine lv_icmp_ge (tgt := 186) hx hb dX12_sight_161 (by decide) (fun c22 => ?_) (fun c22 => ?_)
  · replace hf := ite_t hf c22
    refine lv_iconst (v := 0) hx hb dX12_sight_186 (by decide) ?_
    refine lv_istore (lv' := [(7, .int (0 : Int32)), (0, .ref (xq X 0)), (2, .int v2), (4, .int v4), (5, .int v5), (6, .int v6)]) hx hb dX12_sight_187 hl (by decide) rfl (fun ls hl => ?_)
    refine lv_iconst (v := 1) hx hb dX12_sight_189 (by decide) ?_
    refine lv_istore (lv' := [(8, .int (1 : Int32)), (7, .int (0 : Int32)), (0, .ref (xq X 0)), (2, .int v2), (4, .int v4), (5, .int v5), (6, .int v6)]) hx hb dX12_sight_190 hl (by decide) rfl (fun ls hl => ?_)
    exact tX12_sight_192 C hr n st v4 (0 : Int32) (1 : Int32) _ _ _ hw (lv_sub hl [2, 4, 1, 0] rfl) hf
  · replace hf := ite_f hf c22
    refine lv_iload_n hx hb dX12_sight_164 rfl (lv_at hl 1 rfl) ?_
    refine lv_if_ne (tgt := 173) hx hb dX12_sight_165 (by decide) (fun c23 => ?_) (fun c23 => ?_)
    · replace hf := ite_f hf c23
      refine lv_iload_n hx hb dX12_sight_173 rfl (lv_at hl 1 rfl) ?_
      refine lv_iconst (v := 1) hx hb dX12_sight_174 (by decide) ?_
      refine lv_icmp_ne (tgt := 183) hx hb dX12_sight_175 (by decide) (fun c24 => ?_) (fun c24 => ?_)
      · replace hf := ite_f hf c24
        refine lv_iload hx hb dX12_sight_183 (lv_at hl 4 rfl) ?_
        exact w_iret C hw hr (so2 hf).1 (so2 hf).2 dX12_sight_185
      · replace hf := ite_t hf c24
        refine lv_iload hx hb dX12_sight_178 (lv_at hl 3 rfl) ?_
        refine lv_goto (tgt := 185) hx hb dX12_sight_180 (by decide) ?_
        exact w_iret C hw hr (so2 hf).1 (so2 hf).2 dX12_sight_185
    · replace hf := ite_t hf c23
      refine lv_iload hx hb dX12_sight_168 (lv_at hl 2 rfl) ?_
      refine lv_goto (tgt := 185) hx hb dX12_sight_170 (by decide) ?_
      exact w_iret C hw hr (so2 hf).1 (so2 hf).2 dX12_sight_185
def fX12_sight_106 (kB68 : St → Int32 → Int32 → Int32 → Int32 → Int32 → Int32 → Option (Int32 × St)) (n : Nat) (st : St) (v1 : Int32) (v2 : Int32) (v4 : Int32) (v5 : Int32) (v6 : Int32) (v7 : Int32) : Option (Int32 × St) := bnd (v4 + (1 : Int32)) (fun x25 => gd (inB (rmI v7 (20 : Int32)) 20) (gd (inB (rmI v7 (20 : Int32)) 20) (bnd (sI st 29 (rmI v7 (20 : Int32)).toNatClampNeg ((gI st 29 (rmI v7 (20 : Int32)).toNatClampNeg) + (1 : Int32))) (fun st29 => (fX12_fieldAt n st29 (rmI v7 (20 : Int32)) (v7 / (20 : Int32))).bind (fun r31 => if r31 < 0 then (bnd (v7 + (1 : Int32)) (fun x34 => kB68 st29 v1 v2 x25 v5 v6 x34)) else (bnd (v6 ||| ((1 : Int32) <<< (r31 &&& 31))) (fun x36 => bnd (v7 + (1 : Int32)) (fun x38 => kB68 st29 v1 v2 x25 v5 x36 x38))))))))
set_option maxHeartbeats 4000000 in
theorem tX12_sight_106 {p : Program} {l : Launch} {e : Env} {s : State} {m : MethodId} {args : Array Value} {below : List Frame} {meth : Method} {c : Code} {X : WX} (C : Amb 43 X p s m args meth c cX12_sight 9 RX12) (hr : meth.sig.returnType = some .int) {R : Int32 × St} {n : Nat} {kB68 : St → Int32 → Int32 → Int32 → Int32 → Int32 → Int32 → Option (Int32 × St)} (hB68 : ∀ (st : St) (v1 : Int32) (v2 : Int32) (v4 : Int32) (v5 : Int32) (v6 : Int32) (v7 : Int32) (H : Heap) (locs : List Loc) (ls : Array Slot), Wd EM 43 X s.heap st H locs → lv_has ls 9 [(0, .ref (xq X 0)), (1, .int v1), (2, .int v2), (4, .int v4), (5, .int v5), (6, .int v6), (7, .int v7)] → kB68 st v1 v2 v4 v5 v6 v7 = some R → W p l e { frames := 3, cells := 0, slots := 0, locals := 70 } s m args below meth c H locs 0 0 (QI EM 43 X R.1 R.2 below args s) (F0 m 68 ls [])) : ∀ (st : St) (v1 : Int32) (v2 : Int32) (v4 : Int32) (v5 : Int32) (v6 : Int32) (v7 : Int32) (H : Heap) (locs : List Loc) (ls : Array Slot), Wd EM 43 X s.heap st H locs → lv_has ls 9 [(0, .ref (xq X 0)), (1, .int v1), (2, .int v2), (4, .int v4), (5, .int v5), (6, .int v6), (7, .int v7)] → fX12_sight_106 kB68 n st v1 v2 v4 v5 v6 v7 = some R → W p l e { frames := 3, cells := 0, slots := 0, locals := 70 } s m args below meth c H locs 0 0 (QI EM 43 X R.1 R.2 below args s) (F0 m 106 ls []) := by
  obtain ⟨hx, hb, hml, hown, hts⟩ := id C.1
  intro st v1 v2 v4 v5 v6 v7 H locs ls  hw hl hf
  unfold fX12_sight_106 at hf
  obtain ⟨x25, e26⟩ : ∃ z : Int32, z = v4 + (1 : Int32) := ⟨_, rfl⟩
  replace hf := bnd_nm hf e26
  refine lv_iinc (v := x25) (lv' := [(4, .int x25), (0, .ref (xq X 0)), (1, .int v1), (2, .int v2), (5, .int v5), (6, .int v6), (7, .int v7)]) hx hb dX12_sight_106 hl (k := 3) rfl (by rw [e26]; rfl) (by decide) rfl (fun ls hl => ?_)
  refine lv_aload_n hx hb dX12_sight_109 rfl (lv_at hl 1 rfl) ?_
  refine w_get (T := TX12) C hw (by decide) 40 kf_X12_96 (EM_0 X _ _) rfl inA12 (by decide) rfl dX12_sight_110 ?_
  refine lv_iload hx hb dX12_sight_113 (lv_at hl 6 rfl) ?_
  refine lv_bipush (v := 20) hx hb dX12_sight_115 (by decide) ?_
  refine w_irem C (by decide) dX12_sight_117 ?_
  refine lv_dup2_11 hx hb dX12_sight_118 rfl rfl ?_
  obtain ⟨h27, hf⟩ := gd_some hf
  refine w_iald C hw (by decide) (EM_29 X _ _) h27 rfl dX12_sight_119 ?_
  refine lv_iconst (v := 1) hx hb dX12_sight_120 (by decide) ?_
  refine lv_iadd hx hb dX12_sight_121 ?_
  obtain ⟨h28, hf⟩ := gd_some hf
  obtain ⟨st29, es30⟩ : ∃ z : St, z = sI st 29 (rmI v7 (20 : Int32)).toNatClampNeg ((gI st 29 (rmI v7 (20 : Int32)).toNatClampNeg) + (1 : Int32)) := ⟨_, rfl⟩
  replace hf := bnd_nm hf es30
  refine w_iast C hw (by decide) (fun f9 => EM_29 X f9 _) h28 rfl dX12_sight_122 (fun H locs hw => ?_)
  rw [← es30] at hw
  refine lv_aload_n hx hb dX12_sight_123 rfl (lv_at hl 1 rfl) ?_
  refine lv_iload hx hb dX12_sight_124 (lv_at hl 6 rfl) ?_
  refine lv_bipush (v := 20) hx hb dX12_sight_126 (by decide) ?_
  refine w_irem C (by decide) dX12_sight_128 ?_
  refine lv_iload hx hb dX12_sight_129 (lv_at hl 6 rfl) ?_
  refine lv_bipush (v := 20) hx hb dX12_sight_131 (by decide) ?_
  refine lv_idiv hx hb dX12_sight_133 (by decide) ?_
  obtain ⟨r31, k32, hf⟩ := bd_some hf
  refine w_goI hw (w_runV (rest := []) C hw (zX12_fieldAt _ _ n st29 (rmI v7 (20 : Int32)) (v7 / (20 : Int32)) r31 k32) (by decide) (EM_0 X _ _) rfl km_X12_288 ki_yX12_fieldAt kv_X12_fieldAt kz_X12 kc_X12_fieldAt rfl ok_yX12_fieldAt ⟨Nat.le_of_ble_eq_true rfl, Nat.le_of_ble_eq_true rfl⟩ rfl rfl rfl rfl hl.1 (Nat.le_of_ble_eq_true rfl) dX12_sight_134 ⟨Nat.zero_le _, Nat.zero_le _⟩) (fun H locs hw => ?_)
  refine lv_istore (lv' := [(8, .int r31), (4, .int x25), (0, .ref (xq X 0)), (1, .int v1), (2, .int v2), (5, .int v5), (6, .int v6), (7, .int v7)]) hx hb dX12_sight_137 hl (by decide) rfl (fun ls hl => ?_)
  refine lv_iload hx hb dX12_sight_139 (lv_at hl 0 rfl) ?_
  refine lv_if_lt (tgt := 153) hx hb dX12_sight_141 (by decide) (fun c33 => ?_) (fun c33 => ?_)
  · replace hf := ite_t hf c33
    obtain ⟨x34, e35⟩ : ∃ z : Int32, z = v7 + (1 : Int32) := ⟨_, rfl⟩
    replace hf := bnd_nm hf e35
    refine lv_iinc (v := x34) (lv' := [(7, .int x34), (8, .int r31), (4, .int x25), (0, .ref (xq X 0)), (1, .int v1), (2, .int v2), (5, .int v5), (6, .int v6)]) hx hb dX12_sight_153 hl (k := 7) rfl (by rw [e35]; rfl) (by decide) rfl (fun ls hl => ?_)
    refine lv_goto (tgt := 68) hx hb dX12_sight_156 (by decide) ?_
    exact hB68 st29 v1 v2 x25 v5 v6 x34 _ _ _ hw (lv_sub hl [3, 4, 5, 2, 6, 7, 0] rfl) hf
  · replace hf := ite_f hf c33
    refine lv_iload hx hb dX12_sight_144 (lv_at hl 6 rfl) ?_
    refine lv_iconst (v := 1) hx hb dX12_sight_146 (by decide) ?_
    refine lv_iload hx hb dX12_sight_147 (lv_at hl 0 rfl) ?_
    refine lv_ishl hx hb dX12_sight_149 ?_
    refine lv_ior hx hb dX12_sight_150 ?_
    refine lv_topi (fun x36 e37 => ?_)
    replace hf := bnd_nm hf e37
    refine lv_istore (lv' := [(6, .int x36), (8, .int r31), (4, .int x25), (0, .ref (xq X 0)), (1, .int v1), (2, .int v2), (5, .int v5), (7, .int v7)]) hx hb dX12_sight_151 hl (by decide) rfl (fun ls hl => ?_)
    obtain ⟨x38, e39⟩ : ∃ z : Int32, z = v7 + (1 : Int32) := ⟨_, rfl⟩
    replace hf := bnd_nm hf e39
    refine lv_iinc (v := x38) (lv' := [(7, .int x38), (6, .int x36), (8, .int r31), (4, .int x25), (0, .ref (xq X 0)), (1, .int v1), (2, .int v2), (5, .int v5)]) hx hb dX12_sight_153 hl (k := 7) rfl (by rw [e39]; rfl) (by decide) rfl (fun ls hl => ?_)
    refine lv_goto (tgt := 68) hx hb dX12_sight_156 (by decide) ?_
    exact hB68 st29 v1 v2 x25 v5 x36 x38 _ _ _ hw (lv_sub hl [4, 5, 6, 3, 7, 1, 0] rfl) hf
def fX12_sight_68 (n : Nat) : Nat → St → Int32 → Int32 → Int32 → Int32 → Int32 → Int32 → Option (Int32 × St)
  | 0, _, _, _, _, _, _, _ => none
  | k + 1, st, v1, v2, v4, v5, v6, v7 => if (400 : Int32) ≤ v7 then (fX12_sight_159 n st v2 v4 v5 v6) else ((fX12_areSights n st v1).bind (fun r13 => if bI r13 = 0 then (fX12_sight_159 n st v2 v4 v5 v6) else ((fX12_mayBeAt n st v1 v7).bind (fun r16 => if bI r16 = 0 then (bnd (v7 + (1 : Int32)) (fun x20 => fX12_sight_68 n k st v1 v2 v4 v5 v6 x20)) else (if v4 = 0 then (fX12_sight_106 (fX12_sight_68 n k) n st v1 v2 v4 v7 v6 v7) else (fX12_sight_106 (fX12_sight_68 n k) n st v1 v2 v4 v5 v6 v7))))))
set_option maxHeartbeats 4000000 in
theorem tX12_sight_68 {p : Program} {l : Launch} {e : Env} {s : State} {m : MethodId} {args : Array Value} {below : List Frame} {meth : Method} {c : Code} {X : WX} (C : Amb 43 X p s m args meth c cX12_sight 9 RX12) (hr : meth.sig.returnType = some .int) {R : Int32 × St} {n : Nat} : ∀ (k : Nat) (st : St) (v1 : Int32) (v2 : Int32) (v4 : Int32) (v5 : Int32) (v6 : Int32) (v7 : Int32) (H : Heap) (locs : List Loc) (ls : Array Slot), Wd EM 43 X s.heap st H locs → lv_has ls 9 [(0, .ref (xq X 0)), (1, .int v1), (2, .int v2), (4, .int v4), (5, .int v5), (6, .int v6), (7, .int v7)] → fX12_sight_68 n k st v1 v2 v4 v5 v6 v7 = some R → W p l e { frames := 3, cells := 0, slots := 0, locals := 70 } s m args below meth c H locs 0 0 (QI EM 43 X R.1 R.2 below args s) (F0 m 68 ls []) := by
  obtain ⟨hx, hb, hml, hown, hts⟩ := id C.1
  intro k
  induction k with
  | zero => intro st v1 v2 v4 v5 v6 v7 H locs ls  hw hl hf; exact absurd (show none = some R from hf) (fun z => by cases z)
  | succ k ih =>
    intro st v1 v2 v4 v5 v6 v7 H locs ls  hw hl hf
    rw [fX12_sight_68] at hf
    refine lv_iload hx hb dX12_sight_68 (lv_at hl 6 rfl) ?_
    refine lv_sipush (v := 400) hx hb dX12_sight_70 (by decide) ?_
    refine lv_icmp_ge (tgt := 159) hx hb dX12_sight_73 (by decide) (fun c12 => ?_) (fun c12 => ?_)
    · replace hf := ite_t hf c12
      exact tX12_sight_159 C hr st v2 v4 v5 v6 _ _ _ hw (lv_sub hl [0, 2, 3, 4, 5] rfl) hf
    · replace hf := ite_f hf c12
      refine lv_aload_n hx hb dX12_sight_76 rfl (lv_at hl 0 rfl) ?_
      refine lv_iload_n hx hb dX12_sight_77 rfl (lv_at hl 1 rfl) ?_
      obtain ⟨r13, k14, hf⟩ := bd_some hf
      refine w_goI hw (w_runV (rest := []) C hw (zX12_areSights _ _ n st v1 r13 k14) (by decide) (EM_0 X _ _) rfl km_X12_380 ki_yX12_areSights kv_X12_areSights kz_X12 kc_X12_areSights rfl ok_yX12_areSights ⟨Nat.le_of_ble_eq_true rfl, Nat.le_of_ble_eq_true rfl⟩ rfl rfl rfl rfl hl.1 (Nat.le_of_ble_eq_true rfl) dX12_sight_78 ⟨Nat.zero_le _, Nat.zero_le _⟩) (fun H locs hw => ?_)
      refine lv_if_eq (tgt := 159) hx hb dX12_sight_81 (by decide) (fun c15 => ?_) (fun c15 => ?_)
      · replace hf := ite_t hf c15
        exact tX12_sight_159 C hr st v2 v4 v5 v6 _ _ _ hw (lv_sub hl [0, 2, 3, 4, 5] rfl) hf
      · replace hf := ite_f hf c15
        refine lv_aload_n hx hb dX12_sight_84 rfl (lv_at hl 0 rfl) ?_
        refine lv_iload_n hx hb dX12_sight_85 rfl (lv_at hl 1 rfl) ?_
        refine lv_iload hx hb dX12_sight_86 (lv_at hl 6 rfl) ?_
        obtain ⟨r16, k17, hf⟩ := bd_some hf
        refine w_goI hw (w_runV (rest := []) C hw (zX12_mayBeAt _ _ n st v1 v7 r16 k17) (by decide) (EM_0 X _ _) rfl km_X12_383 ki_yX12_mayBeAt kv_X12_mayBeAt kz_X12 kc_X12_mayBeAt rfl ok_yX12_mayBeAt ⟨Nat.le_of_ble_eq_true rfl, Nat.le_of_ble_eq_true rfl⟩ rfl rfl rfl rfl hl.1 (Nat.le_of_ble_eq_true rfl) dX12_sight_88 ⟨Nat.zero_le _, Nat.zero_le _⟩) (fun H locs hw => ?_)
        refine lv_if_ne (tgt := 97) hx hb dX12_sight_91 (by decide) (fun c18 => ?_) (fun c18 => ?_)
        · replace hf := ite_f hf c18
          refine lv_iload hx hb dX12_sight_97 (lv_at hl 3 rfl) ?_
          refine lv_if_ne (tgt := 106) hx hb dX12_sight_99 (by decide) (fun c19 => ?_) (fun c19 => ?_)
          · replace hf := ite_f hf c19
            exact tX12_sight_106 C hr ih st v1 v2 v4 v5 v6 v7 _ _ _ hw (lv_sub hl [0, 1, 2, 3, 4, 5, 6] rfl) hf
          · replace hf := ite_t hf c19
            refine lv_iload hx hb dX12_sight_102 (lv_at hl 6 rfl) ?_
            refine lv_istore (lv' := [(5, .int v7), (0, .ref (xq X 0)), (1, .int v1), (2, .int v2), (4, .int v4), (6, .int v6), (7, .int v7)]) hx hb dX12_sight_104 hl (by decide) rfl (fun ls hl => ?_)
            exact tX12_sight_106 C hr ih st v1 v2 v4 v7 v6 v7 _ _ _ hw (lv_sub hl [1, 2, 3, 4, 0, 5, 6] rfl) hf
        · replace hf := ite_t hf c18
          refine lv_goto (tgt := 153) hx hb dX12_sight_94 (by decide) ?_
          obtain ⟨x20, e21⟩ : ∃ z : Int32, z = v7 + (1 : Int32) := ⟨_, rfl⟩
          replace hf := bnd_nm hf e21
          refine lv_iinc (v := x20) (lv' := [(7, .int x20), (0, .ref (xq X 0)), (1, .int v1), (2, .int v2), (4, .int v4), (5, .int v5), (6, .int v6)]) hx hb dX12_sight_153 hl (k := 6) rfl (by rw [e21]; rfl) (by decide) rfl (fun ls hl => ?_)
          refine lv_goto (tgt := 68) hx hb dX12_sight_156 (by decide) ?_
          exact ih st v1 v2 v4 v5 v6 x20 _ _ _ hw (lv_sub hl [1, 2, 3, 4, 5, 6, 0] rfl) hf
def fX12_sight_44 (n : Nat) : Nat → St → Int32 → Int32 → Int32 → Int32 → Int32 → Int32 → Option (Int32 × St)
  | 0, _, _, _, _, _, _, _ => none
  | k + 1, st, v1, v2, v4, v5, v6, v7 => if (20 : Int32) ≤ v7 then (fX12_sight_68 n n st v1 v2 v4 v5 v6 (0 : Int32)) else (gd (inB v7 20) (bnd (sI st 29 v7.toNatClampNeg (0 : Int32)) (fun st8 => bnd (v7 + (1 : Int32)) (fun x10 => fX12_sight_44 n k st8 v1 v2 v4 v5 v6 x10))))
set_option maxHeartbeats 4000000 in
theorem tX12_sight_44 {p : Program} {l : Launch} {e : Env} {s : State} {m : MethodId} {args : Array Value} {below : List Frame} {meth : Method} {c : Code} {X : WX} (C : Amb 43 X p s m args meth c cX12_sight 9 RX12) (hr : meth.sig.returnType = some .int) {R : Int32 × St} {n : Nat} : ∀ (k : Nat) (st : St) (v1 : Int32) (v2 : Int32) (v4 : Int32) (v5 : Int32) (v6 : Int32) (v7 : Int32) (H : Heap) (locs : List Loc) (ls : Array Slot), Wd EM 43 X s.heap st H locs → lv_has ls 9 [(0, .ref (xq X 0)), (1, .int v1), (2, .int v2), (4, .int v4), (5, .int v5), (6, .int v6), (7, .int v7)] → fX12_sight_44 n k st v1 v2 v4 v5 v6 v7 = some R → W p l e { frames := 3, cells := 0, slots := 0, locals := 70 } s m args below meth c H locs 0 0 (QI EM 43 X R.1 R.2 below args s) (F0 m 44 ls []) := by
  obtain ⟨hx, hb, hml, hown, hts⟩ := id C.1
  intro k
  induction k with
  | zero => intro st v1 v2 v4 v5 v6 v7 H locs ls  hw hl hf; exact absurd (show none = some R from hf) (fun z => by cases z)
  | succ k ih =>
    intro st v1 v2 v4 v5 v6 v7 H locs ls  hw hl hf
    rw [fX12_sight_44] at hf
    refine lv_iload hx hb dX12_sight_44 (lv_at hl 6 rfl) ?_
    refine lv_bipush (v := 20) hx hb dX12_sight_46 (by decide) ?_
    refine lv_icmp_ge (tgt := 65) hx hb dX12_sight_48 (by decide) (fun c6 => ?_) (fun c6 => ?_)
    · replace hf := ite_t hf c6
      refine lv_iconst (v := 0) hx hb dX12_sight_65 (by decide) ?_
      refine lv_istore (lv' := [(7, .int (0 : Int32)), (0, .ref (xq X 0)), (1, .int v1), (2, .int v2), (4, .int v4), (5, .int v5), (6, .int v6)]) hx hb dX12_sight_66 hl (by decide) rfl (fun ls hl => ?_)
      exact tX12_sight_68 C hr n st v1 v2 v4 v5 v6 (0 : Int32) _ _ _ hw (lv_sub hl [1, 2, 3, 4, 5, 6, 0] rfl) hf
    · replace hf := ite_f hf c6
      refine lv_aload_n hx hb dX12_sight_51 rfl (lv_at hl 0 rfl) ?_
      refine w_get (T := TX12) C hw (by decide) 40 kf_X12_96 (EM_0 X _ _) rfl inA12 (by decide) rfl dX12_sight_52 ?_
      refine lv_iload hx hb dX12_sight_55 (lv_at hl 6 rfl) ?_
      refine lv_iconst (v := 0) hx hb dX12_sight_57 (by decide) ?_
      obtain ⟨h7, hf⟩ := gd_some hf
      obtain ⟨st8, es9⟩ : ∃ z : St, z = sI st 29 v7.toNatClampNeg (0 : Int32) := ⟨_, rfl⟩
      replace hf := bnd_nm hf es9
      refine w_iast C hw (by decide) (fun f9 => EM_29 X f9 _) h7 rfl dX12_sight_58 (fun H locs hw => ?_)
      rw [← es9] at hw
      obtain ⟨x10, e11⟩ : ∃ z : Int32, z = v7 + (1 : Int32) := ⟨_, rfl⟩
      replace hf := bnd_nm hf e11
      refine lv_iinc (v := x10) (lv' := [(7, .int x10), (0, .ref (xq X 0)), (1, .int v1), (2, .int v2), (4, .int v4), (5, .int v5), (6, .int v6)]) hx hb dX12_sight_59 hl (k := 6) rfl (by rw [e11]; rfl) (by decide) rfl (fun ls hl => ?_)
      refine lv_goto (tgt := 44) hx hb dX12_sight_62 (by decide) ?_
      exact ih st8 v1 v2 v4 v5 v6 x10 _ _ _ hw (lv_sub hl [1, 2, 3, 4, 5, 6, 0] rfl) hf
def fX12_sight (n : Nat) (st : St) (a1 : Int32) (a2 : Int32) : Option (Int32 × St) := if bI (fX12_isShelf a1) = 0 then (some ((-1 : Int32), st)) else (if bI (fX12_in a2 (0 : Int32) (3 : Int32)) = 0 then (some ((-1 : Int32), st)) else ((fX12_rowFault st a1 (0 : Int32)).bind (fun r3 => if 0 ≤ r3 then (fX12_sight_44 n n st a1 a2 (0 : Int32) (-2 : Int32) (0 : Int32) (0 : Int32)) else (some (r3, st)))))
set_option maxHeartbeats 4000000 in
theorem zX12_sight (l : Launch) (X : WX) (n : Nat) (st : St) (a1 : Int32) (a2 : Int32) (R : Int32 × St) (hf : fX12_sight n st a1 a2 = some R) : CtI l yX12_sight cX12_sight 9 .int ({ frames := 3, cells := 0, slots := 0, locals := 70 }) EM 43 X [.ref (xq X 0), .int a1, .int a2] st R.1 R.2 := by
  refine ct_in (own := RX12) (by decide +kernel) rfl (Nat.le_of_ble_eq_true rfl) (fun p e s m below meth c C hr hw ls hl => ?_)
  obtain ⟨hx, hb, hml, hown, hts⟩ := id C.1
  have hl : lv_has ls 9 [(0, .ref (xq X 0)), (1, .int a1), (2, .int a2)] := hl
  unfold fX12_sight at hf
  refine lv_iload_n hx hb dX12_sight_0 rfl (lv_at hl 1 rfl) ?_
  refine w_goI hw (w_runS (rest := []) C hw (zX12_isShelf _ _ st a1) km_X12_168 kt_yX12_isShelf kz_X12 kc_X12_isShelf ok_yX12_isShelf ⟨Nat.le_of_ble_eq_true rfl, Nat.le_of_ble_eq_true rfl⟩ rfl rfl rfl rfl hl.1 (Nat.le_of_ble_eq_true rfl) dX12_sight_1 ⟨Nat.zero_le _, Nat.zero_le _⟩) (fun H locs hw => ?_)
  refine lv_if_eq (tgt := 16) hx hb dX12_sight_4 (by decide) (fun c1 => ?_) (fun c1 => ?_)
  · replace hf := ite_t hf c1
    refine lv_iconst (v := -1) hx hb dX12_sight_16 (by decide) ?_
    exact w_iret C hw hr (so2 hf).1 (so2 hf).2 dX12_sight_17
  · replace hf := ite_f hf c1
    refine lv_iload_n hx hb dX12_sight_7 rfl (lv_at hl 2 rfl) ?_
    refine lv_iconst (v := 0) hx hb dX12_sight_8 (by decide) ?_
    refine lv_iconst (v := 3) hx hb dX12_sight_9 (by decide) ?_
    refine w_goI hw (w_runS (rest := []) C hw (zX12_in _ _ st a2 (0 : Int32) (3 : Int32)) km_X12_147 kt_yX12_in kz_X12 kc_X12_in ok_yX12_in ⟨Nat.le_of_ble_eq_true rfl, Nat.le_of_ble_eq_true rfl⟩ rfl rfl rfl rfl hl.1 (Nat.le_of_ble_eq_true rfl) dX12_sight_10 ⟨Nat.zero_le _, Nat.zero_le _⟩) (fun H locs hw => ?_)
    refine lv_if_ne (tgt := 18) hx hb dX12_sight_13 (by decide) (fun c2 => ?_) (fun c2 => ?_)
    · replace hf := ite_f hf c2
      refine lv_aload_n hx hb dX12_sight_18 rfl (lv_at hl 0 rfl) ?_
      refine lv_iload_n hx hb dX12_sight_19 rfl (lv_at hl 1 rfl) ?_
      refine lv_iconst (v := 0) hx hb dX12_sight_20 (by decide) ?_
      obtain ⟨r3, k4, hf⟩ := bd_some hf
      refine w_goI hw (w_runV (rest := []) C hw (zX12_rowFault _ _ st a1 (0 : Int32) r3 k4) (by decide) (EM_0 X _ _) rfl km_X12_377 ki_yX12_rowFault kv_X12_rowFault kz_X12 kc_X12_rowFault rfl ok_yX12_rowFault ⟨Nat.le_of_ble_eq_true rfl, Nat.le_of_ble_eq_true rfl⟩ rfl rfl rfl rfl hl.1 (Nat.le_of_ble_eq_true rfl) dX12_sight_21 ⟨Nat.zero_le _, Nat.zero_le _⟩) (fun H locs hw => ?_)
      refine lv_istore_n (lv' := [(3, .int r3), (0, .ref (xq X 0)), (1, .int a1), (2, .int a2)]) hx hb dX12_sight_24 rfl hl (by decide) rfl (fun ls hl => ?_)
      refine lv_iload_n hx hb dX12_sight_25 rfl (lv_at hl 0 rfl) ?_
      refine lv_if_ge (tgt := 31) hx hb dX12_sight_26 (by decide) (fun c5 => ?_) (fun c5 => ?_)
      · replace hf := ite_t hf c5
        refine lv_iconst (v := 0) hx hb dX12_sight_31 (by decide) ?_
        refine lv_istore (lv' := [(4, .int (0 : Int32)), (3, .int r3), (0, .ref (xq X 0)), (1, .int a1), (2, .int a2)]) hx hb dX12_sight_32 hl (by decide) rfl (fun ls hl => ?_)
        refine lv_bipush (v := -2) hx hb dX12_sight_34 (by decide) ?_
        refine lv_istore (lv' := [(5, .int (-2 : Int32)), (4, .int (0 : Int32)), (3, .int r3), (0, .ref (xq X 0)), (1, .int a1), (2, .int a2)]) hx hb dX12_sight_36 hl (by decide) rfl (fun ls hl => ?_)
        refine lv_iconst (v := 0) hx hb dX12_sight_38 (by decide) ?_
        refine lv_istore (lv' := [(6, .int (0 : Int32)), (5, .int (-2 : Int32)), (4, .int (0 : Int32)), (3, .int r3), (0, .ref (xq X 0)), (1, .int a1), (2, .int a2)]) hx hb dX12_sight_39 hl (by decide) rfl (fun ls hl => ?_)
        refine lv_iconst (v := 0) hx hb dX12_sight_41 (by decide) ?_
        refine lv_istore (lv' := [(7, .int (0 : Int32)), (6, .int (0 : Int32)), (5, .int (-2 : Int32)), (4, .int (0 : Int32)), (3, .int r3), (0, .ref (xq X 0)), (1, .int a1), (2, .int a2)]) hx hb dX12_sight_42 hl (by decide) rfl (fun ls hl => ?_)
        exact tX12_sight_44 C hr n st a1 a2 (0 : Int32) (-2 : Int32) (0 : Int32) (0 : Int32) _ _ _ hw (lv_sub hl [5, 6, 7, 3, 2, 1, 0] rfl) hf
      · replace hf := ite_f hf c5
        refine lv_iload_n hx hb dX12_sight_29 rfl (lv_at hl 0 rfl) ?_
        exact w_iret C hw hr (so2 hf).1 (so2 hf).2 dX12_sight_30
    · replace hf := ite_t hf c2
      refine lv_iconst (v := -1) hx hb dX12_sight_16 (by decide) ?_
      exact w_iret C hw hr (so2 hf).1 (so2 hf).2 dX12_sight_17
theorem dX12_areHeard_0 : decode cX12_areHeard 0 = .ok (.iconst 0, 1) := by decide +kernel
theorem dX12_areHeard_1 : decode cX12_areHeard 1 = .ok (.istore_n 2, 1) := by decide +kernel
theorem dX12_areHeard_2 : decode cX12_areHeard 2 = .ok (.iload_n 2, 1) := by decide +kernel
theorem dX12_areHeard_3 : decode cX12_areHeard 3 = .ok (.aload_n 0, 1) := by decide +kernel
theorem dX12_areHeard_4 : decode cX12_areHeard 4 = .ok (.getfield 130, 3) := by decide +kernel
theorem dX12_areHeard_7 : decode cX12_areHeard 7 = .ok (.iload_n 1, 1) := by decide +kernel
theorem dX12_areHeard_8 : decode cX12_areHeard 8 = .ok (.iaload, 1) := by decide +kernel
theorem dX12_areHeard_9 : decode cX12_areHeard 9 = .ok (.if_icmp .ge 55, 3) := by decide +kernel
theorem dX12_areHeard_12 : decode cX12_areHeard 12 = .ok (.iload_n 2, 1) := by decide +kernel
theorem dX12_areHeard_13 : decode cX12_areHeard 13 = .ok (.iconst 2, 1) := by decide +kernel
theorem dX12_areHeard_14 : decode cX12_areHeard 14 = .ok (.iadd, 1) := by decide +kernel
theorem dX12_areHeard_15 : decode cX12_areHeard 15 = .ok (.aload_n 0, 1) := by decide +kernel
theorem dX12_areHeard_16 : decode cX12_areHeard 16 = .ok (.getfield 130, 3) := by decide +kernel
theorem dX12_areHeard_19 : decode cX12_areHeard 19 = .ok (.iload_n 1, 1) := by decide +kernel
theorem dX12_areHeard_20 : decode cX12_areHeard 20 = .ok (.iaload, 1) := by decide +kernel
theorem dX12_areHeard_21 : decode cX12_areHeard 21 = .ok (.if_icmp .ge 35, 3) := by decide +kernel
theorem dX12_areHeard_24 : decode cX12_areHeard 24 = .ok (.aload_n 0, 1) := by decide +kernel
theorem dX12_areHeard_25 : decode cX12_areHeard 25 = .ok (.iload_n 1, 1) := by decide +kernel
theorem dX12_areHeard_26 : decode cX12_areHeard 26 = .ok (.iload_n 2, 1) := by decide +kernel
theorem dX12_areHeard_27 : decode cX12_areHeard 27 = .ok (.invokevirtual 367, 3) := by decide +kernel
theorem dX12_areHeard_30 : decode cX12_areHeard 30 = .ok (.iconst 0, 1) := by decide +kernel
theorem dX12_areHeard_31 : decode cX12_areHeard 31 = .ok (.bipush 19, 2) := by decide +kernel
theorem dX12_areHeard_33 : decode cX12_areHeard 33 = .ok (.invokestatic 147, 3) := by decide +kernel
theorem dX12_areHeard_36 : decode cX12_areHeard 36 = .ok (.ifCond .eq 20, 3) := by decide +kernel
theorem dX12_areHeard_39 : decode cX12_areHeard 39 = .ok (.aload_n 0, 1) := by decide +kernel
theorem dX12_areHeard_40 : decode cX12_areHeard 40 = .ok (.iload_n 1, 1) := by decide +kernel
theorem dX12_areHeard_41 : decode cX12_areHeard 41 = .ok (.iload_n 2, 1) := by decide +kernel
theorem dX12_areHeard_42 : decode cX12_areHeard 42 = .ok (.iconst 1, 1) := by decide +kernel
theorem dX12_areHeard_43 : decode cX12_areHeard 43 = .ok (.iadd, 1) := by decide +kernel
theorem dX12_areHeard_44 : decode cX12_areHeard 44 = .ok (.invokevirtual 367, 3) := by decide +kernel
theorem dX12_areHeard_47 : decode cX12_areHeard 47 = .ok (.iconst 0, 1) := by decide +kernel
theorem dX12_areHeard_48 : decode cX12_areHeard 48 = .ok (.bipush 19, 2) := by decide +kernel
theorem dX12_areHeard_50 : decode cX12_areHeard 50 = .ok (.invokestatic 147, 3) := by decide +kernel
theorem dX12_areHeard_53 : decode cX12_areHeard 53 = .ok (.ifCond .ne 5, 3) := by decide +kernel
theorem dX12_areHeard_56 : decode cX12_areHeard 56 = .ok (.iconst 0, 1) := by decide +kernel
theorem dX12_areHeard_57 : decode cX12_areHeard 57 = .ok (.ireturn, 1) := by decide +kernel
theorem dX12_areHeard_58 : decode cX12_areHeard 58 = .ok (.iinc 2 3, 3) := by decide +kernel
theorem dX12_areHeard_61 : decode cX12_areHeard 61 = .ok (.goto (-59), 3) := by decide +kernel
theorem dX12_areHeard_64 : decode cX12_areHeard 64 = .ok (.aload_n 0, 1) := by decide +kernel
theorem dX12_areHeard_65 : decode cX12_areHeard 65 = .ok (.getfield 130, 3) := by decide +kernel
theorem dX12_areHeard_68 : decode cX12_areHeard 68 = .ok (.iload_n 1, 1) := by decide +kernel
theorem dX12_areHeard_69 : decode cX12_areHeard 69 = .ok (.iaload, 1) := by decide +kernel
theorem dX12_areHeard_70 : decode cX12_areHeard 70 = .ok (.ifCond .le 7, 3) := by decide +kernel
theorem dX12_areHeard_73 : decode cX12_areHeard 73 = .ok (.iconst 1, 1) := by decide +kernel
theorem dX12_areHeard_74 : decode cX12_areHeard 74 = .ok (.goto 4, 3) := by decide +kernel
theorem dX12_areHeard_77 : decode cX12_areHeard 77 = .ok (.iconst 0, 1) := by decide +kernel
theorem dX12_areHeard_78 : decode cX12_areHeard 78 = .ok (.ireturn, 1) := by decide +kernel
theorem ok_yX12_areHeard : yOk yX12_areHeard 1 := ⟨by decide +kernel, by decide +kernel, by decide +kernel⟩
def fX12_areHeard_2 (n : Nat) (st : St) : Nat → Int32 → Int32 → Option (Bool)
  | 0, _, _ => none
  | k + 1, v1, v2 => gd (inB v1 6) (if gI st 40 v1.toNatClampNeg ≤ v2 then (gd (inB v1 6) (if gI st 40 v1.toNatClampNeg ≤ 0 then (some false) else (some true))) else (gd (inB v1 6) (if gI st 40 v1.toNatClampNeg ≤ v2 + (2 : Int32) then (some false) else ((fX12_told st v1 v2).bind (fun r7 => if bI (fX12_in r7 (0 : Int32) (19 : Int32)) = 0 then (some false) else ((fX12_told st v1 (v2 + (1 : Int32))).bind (fun r10 => if bI (fX12_in r10 (0 : Int32) (19 : Int32)) = 0 then (some false) else (bnd (v2 + (3 : Int32)) (fun x13 => fX12_areHeard_2 n st k v1 x13)))))))))
set_option maxHeartbeats 4000000 in
theorem tX12_areHeard_2 {p : Program} {l : Launch} {e : Env} {s : State} {m : MethodId} {args : Array Value} {below : List Frame} {meth : Method} {c : Code} {X : WX} (C : Amb 43 X p s m args meth c cX12_areHeard 3 RX12) (hr : meth.sig.returnType = some .boolean) {R : Bool} {n : Nat} {st : St} : ∀ (k : Nat) (v1 : Int32) (v2 : Int32) (H : Heap) (locs : List Loc) (ls : Array Slot), Wd EM 43 X s.heap st H locs → lv_has ls 3 [(0, .ref (xq X 0)), (1, .int v1), (2, .int v2)] → fX12_areHeard_2 n st k v1 v2 = some R → W p l e { frames := 1, cells := 0, slots := 0, locals := 22 } s m args below meth c H locs 0 0 (QI EM 43 X (bI R) st below args s) (F0 m 2 ls []) := by
  obtain ⟨hx, hb, hml, hown, hts⟩ := id C.1
  intro k
  induction k with
  | zero => intro v1 v2 H locs ls  hw hl hf; exact absurd (show none = some R from hf) (fun z => by cases z)
  | succ k ih =>
    intro v1 v2 H locs ls  hw hl hf
    rw [fX12_areHeard_2] at hf
    refine lv_iload_n hx hb dX12_areHeard_2 rfl (lv_at hl 2 rfl) ?_
    refine lv_aload_n hx hb dX12_areHeard_3 rfl (lv_at hl 0 rfl) ?_
    refine w_get (T := TX12) C hw (by decide) 55 kf_X12_130 (EM_0 X _ _) rfl inA12 (by decide) rfl dX12_areHeard_4 ?_
    refine lv_iload_n hx hb dX12_areHeard_7 rfl (lv_at hl 1 rfl) ?_
    obtain ⟨h1, hf⟩ := gd_some hf
    refine w_iald C hw (by decide) (EM_40 X _ _) h1 rfl dX12_areHeard_8 ?_
    refine lv_icmp_ge (tgt := 64) hx hb dX12_areHeard_9 (by decide) (fun c2 => ?_) (fun c2 => ?_)
    · replace hf := ite_t hf c2
      refine lv_aload_n hx hb dX12_areHeard_64 rfl (lv_at hl 0 rfl) ?_
      refine w_get (T := TX12) C hw (by decide) 55 kf_X12_130 (EM_0 X _ _) rfl inA12 (by decide) rfl dX12_areHeard_65 ?_
      refine lv_iload_n hx hb dX12_areHeard_68 rfl (lv_at hl 1 rfl) ?_
      obtain ⟨h3, hf⟩ := gd_some hf
      refine w_iald C hw (by decide) (EM_40 X _ _) h3 rfl dX12_areHeard_69 ?_
      refine lv_if_le (tgt := 77) hx hb dX12_areHeard_70 (by decide) (fun c4 => ?_) (fun c4 => ?_)
      · replace hf := ite_t hf c4
        refine lv_iconst (v := 0) hx hb dX12_areHeard_77 (by decide) ?_
        exact w_zret (b := false) C hw hr rfl (Option.some.inj hf) rfl dX12_areHeard_78
      · replace hf := ite_f hf c4
        refine lv_iconst (v := 1) hx hb dX12_areHeard_73 (by decide) ?_
        refine lv_goto (tgt := 78) hx hb dX12_areHeard_74 (by decide) ?_
        exact w_zret (b := true) C hw hr rfl (Option.some.inj hf) rfl dX12_areHeard_78
    · replace hf := ite_f hf c2
      refine lv_iload_n hx hb dX12_areHeard_12 rfl (lv_at hl 2 rfl) ?_
      refine lv_iconst (v := 2) hx hb dX12_areHeard_13 (by decide) ?_
      refine lv_iadd hx hb dX12_areHeard_14 ?_
      refine lv_aload_n hx hb dX12_areHeard_15 rfl (lv_at hl 0 rfl) ?_
      refine w_get (T := TX12) C hw (by decide) 55 kf_X12_130 (EM_0 X _ _) rfl inA12 (by decide) rfl dX12_areHeard_16 ?_
      refine lv_iload_n hx hb dX12_areHeard_19 rfl (lv_at hl 1 rfl) ?_
      obtain ⟨h5, hf⟩ := gd_some hf
      refine w_iald C hw (by decide) (EM_40 X _ _) h5 rfl dX12_areHeard_20 ?_
      refine lv_icmp_ge (tgt := 56) hx hb dX12_areHeard_21 (by decide) (fun c6 => ?_) (fun c6 => ?_)
      · replace hf := ite_t hf c6
        refine lv_iconst (v := 0) hx hb dX12_areHeard_56 (by decide) ?_
        exact w_zret (b := false) C hw hr rfl (Option.some.inj hf) rfl dX12_areHeard_57
      · replace hf := ite_f hf c6
        refine lv_aload_n hx hb dX12_areHeard_24 rfl (lv_at hl 0 rfl) ?_
        refine lv_iload_n hx hb dX12_areHeard_25 rfl (lv_at hl 1 rfl) ?_
        refine lv_iload_n hx hb dX12_areHeard_26 rfl (lv_at hl 2 rfl) ?_
        obtain ⟨r7, k8, hf⟩ := bd_some hf
        refine w_goI hw (w_runV (rest := []) C hw (zX12_told _ _ st v1 v2 r7 k8) (by decide) (EM_0 X _ _) rfl km_X12_367 ki_yX12_told kv_X12_told kz_X12 kc_X12_told rfl ok_yX12_told ⟨Nat.le_of_ble_eq_true rfl, Nat.le_of_ble_eq_true rfl⟩ rfl rfl rfl rfl hl.1 (Nat.le_of_ble_eq_true rfl) dX12_areHeard_27 ⟨Nat.zero_le _, Nat.zero_le _⟩) (fun H locs hw => ?_)
        refine lv_iconst (v := 0) hx hb dX12_areHeard_30 (by decide) ?_
        refine lv_bipush (v := 19) hx hb dX12_areHeard_31 (by decide) ?_
        refine w_goI hw (w_runS (rest := []) C hw (zX12_in _ _ st r7 (0 : Int32) (19 : Int32)) km_X12_147 kt_yX12_in kz_X12 kc_X12_in ok_yX12_in ⟨Nat.le_of_ble_eq_true rfl, Nat.le_of_ble_eq_true rfl⟩ rfl rfl rfl rfl hl.1 (Nat.le_of_ble_eq_true rfl) dX12_areHeard_33 ⟨Nat.zero_le _, Nat.zero_le _⟩) (fun H locs hw => ?_)
        refine lv_if_eq (tgt := 56) hx hb dX12_areHeard_36 (by decide) (fun c9 => ?_) (fun c9 => ?_)
        · replace hf := ite_t hf c9
          refine lv_iconst (v := 0) hx hb dX12_areHeard_56 (by decide) ?_
          exact w_zret (b := false) C hw hr rfl (Option.some.inj hf) rfl dX12_areHeard_57
        · replace hf := ite_f hf c9
          refine lv_aload_n hx hb dX12_areHeard_39 rfl (lv_at hl 0 rfl) ?_
          refine lv_iload_n hx hb dX12_areHeard_40 rfl (lv_at hl 1 rfl) ?_
          refine lv_iload_n hx hb dX12_areHeard_41 rfl (lv_at hl 2 rfl) ?_
          refine lv_iconst (v := 1) hx hb dX12_areHeard_42 (by decide) ?_
          refine lv_iadd hx hb dX12_areHeard_43 ?_
          obtain ⟨r10, k11, hf⟩ := bd_some hf
          refine w_goI hw (w_runV (rest := []) C hw (zX12_told _ _ st v1 (v2 + (1 : Int32)) r10 k11) (by decide) (EM_0 X _ _) rfl km_X12_367 ki_yX12_told kv_X12_told kz_X12 kc_X12_told rfl ok_yX12_told ⟨Nat.le_of_ble_eq_true rfl, Nat.le_of_ble_eq_true rfl⟩ rfl rfl rfl rfl hl.1 (Nat.le_of_ble_eq_true rfl) dX12_areHeard_44 ⟨Nat.zero_le _, Nat.zero_le _⟩) (fun H locs hw => ?_)
          refine lv_iconst (v := 0) hx hb dX12_areHeard_47 (by decide) ?_
          refine lv_bipush (v := 19) hx hb dX12_areHeard_48 (by decide) ?_
          refine w_goI hw (w_runS (rest := []) C hw (zX12_in _ _ st r10 (0 : Int32) (19 : Int32)) km_X12_147 kt_yX12_in kz_X12 kc_X12_in ok_yX12_in ⟨Nat.le_of_ble_eq_true rfl, Nat.le_of_ble_eq_true rfl⟩ rfl rfl rfl rfl hl.1 (Nat.le_of_ble_eq_true rfl) dX12_areHeard_50 ⟨Nat.zero_le _, Nat.zero_le _⟩) (fun H locs hw => ?_)
          refine lv_if_ne (tgt := 58) hx hb dX12_areHeard_53 (by decide) (fun c12 => ?_) (fun c12 => ?_)
          · replace hf := ite_f hf c12
            obtain ⟨x13, e14⟩ : ∃ z : Int32, z = v2 + (3 : Int32) := ⟨_, rfl⟩
            replace hf := bnd_nm hf e14
            refine lv_iinc (v := x13) (lv' := [(2, .int x13), (0, .ref (xq X 0)), (1, .int v1)]) hx hb dX12_areHeard_58 hl (k := 2) rfl (by rw [e14]; rfl) (by decide) rfl (fun ls hl => ?_)
            refine lv_goto (tgt := 2) hx hb dX12_areHeard_61 (by decide) ?_
            exact ih v1 x13 _ _ _ hw (lv_sub hl [1, 2, 0] rfl) hf
          · replace hf := ite_t hf c12
            refine lv_iconst (v := 0) hx hb dX12_areHeard_56 (by decide) ?_
            exact w_zret (b := false) C hw hr rfl (Option.some.inj hf) rfl dX12_areHeard_57
def fX12_areHeard (n : Nat) (st : St) (a1 : Int32) : Option (Bool) := fX12_areHeard_2 n st n a1 (0 : Int32)
set_option maxHeartbeats 4000000 in
theorem zX12_areHeard (l : Launch) (X : WX) (n : Nat) (st : St) (a1 : Int32) (R : Bool) (hf : fX12_areHeard n st a1 = some R) : CtI l yX12_areHeard cX12_areHeard 3 .boolean ({ frames := 1, cells := 0, slots := 0, locals := 22 }) EM 43 X [.ref (xq X 0), .int a1] st (bI R) st := by
  refine ct_in (own := RX12) (by decide +kernel) rfl (Nat.le_of_ble_eq_true rfl) (fun p e s m below meth c C hr hw ls hl => ?_)
  obtain ⟨hx, hb, hml, hown, hts⟩ := id C.1
  have hl : lv_has ls 3 [(0, .ref (xq X 0)), (1, .int a1)] := hl
  unfold fX12_areHeard at hf
  refine lv_iconst (v := 0) hx hb dX12_areHeard_0 (by decide) ?_
  refine lv_istore_n (lv' := [(2, .int (0 : Int32)), (0, .ref (xq X 0)), (1, .int a1)]) hx hb dX12_areHeard_1 rfl hl (by decide) rfl (fun ls hl => ?_)
  exact tX12_areHeard_2 C hr n a1 (0 : Int32) _ _ _ hw (lv_sub hl [1, 2, 0] rfl) hf
