theorem dX10_weighFalls_0 : decode cX10_weighFalls 0 = .ok (.iconst 0, 1) := by decide +kernel
theorem dX10_weighFalls_1 : decode cX10_weighFalls 1 = .ok (.istore_n 1, 1) := by decide +kernel
theorem dX10_weighFalls_2 : decode cX10_weighFalls 2 = .ok (.iload_n 1, 1) := by decide +kernel
theorem dX10_weighFalls_3 : decode cX10_weighFalls 3 = .ok (.aload_n 0, 1) := by decide +kernel
theorem dX10_weighFalls_4 : decode cX10_weighFalls 4 = .ok (.getfield 23, 3) := by decide +kernel
theorem dX10_weighFalls_7 : decode cX10_weighFalls 7 = .ok (.getfield 40, 3) := by decide +kernel
theorem dX10_weighFalls_10 : decode cX10_weighFalls 10 = .ok (.if_icmp .ge 106, 3) := by decide +kernel
theorem dX10_weighFalls_13 : decode cX10_weighFalls 13 = .ok (.aload_n 0, 1) := by decide +kernel
theorem dX10_weighFalls_14 : decode cX10_weighFalls 14 = .ok (.getfield 11, 3) := by decide +kernel
theorem dX10_weighFalls_17 : decode cX10_weighFalls 17 = .ok (.iload_n 1, 1) := by decide +kernel
theorem dX10_weighFalls_18 : decode cX10_weighFalls 18 = .ok (.aload_n 0, 1) := by decide +kernel
theorem dX10_weighFalls_19 : decode cX10_weighFalls 19 = .ok (.getfield 23, 3) := by decide +kernel
theorem dX10_weighFalls_22 : decode cX10_weighFalls 22 = .ok (.aload_n 0, 1) := by decide +kernel
theorem dX10_weighFalls_23 : decode cX10_weighFalls 23 = .ok (.getfield 23, 3) := by decide +kernel
theorem dX10_weighFalls_26 : decode cX10_weighFalls 26 = .ok (.iload_n 1, 1) := by decide +kernel
theorem dX10_weighFalls_27 : decode cX10_weighFalls 27 = .ok (.invokevirtual 65, 3) := by decide +kernel
theorem dX10_weighFalls_30 : decode cX10_weighFalls 30 = .ok (.invokevirtual 69, 3) := by decide +kernel
theorem dX10_weighFalls_33 : decode cX10_weighFalls 33 = .ok (.iastore, 1) := by decide +kernel
theorem dX10_weighFalls_34 : decode cX10_weighFalls 34 = .ok (.aload_n 0, 1) := by decide +kernel
theorem dX10_weighFalls_35 : decode cX10_weighFalls 35 = .ok (.getfield 27, 3) := by decide +kernel
theorem dX10_weighFalls_38 : decode cX10_weighFalls 38 = .ok (.iload_n 1, 1) := by decide +kernel
theorem dX10_weighFalls_39 : decode cX10_weighFalls 39 = .ok (.aload_n 0, 1) := by decide +kernel
theorem dX10_weighFalls_40 : decode cX10_weighFalls 40 = .ok (.getfield 11, 3) := by decide +kernel
theorem dX10_weighFalls_43 : decode cX10_weighFalls 43 = .ok (.iload_n 1, 1) := by decide +kernel
theorem dX10_weighFalls_44 : decode cX10_weighFalls 44 = .ok (.iaload, 1) := by decide +kernel
theorem dX10_weighFalls_45 : decode cX10_weighFalls 45 = .ok (.iconst (-1), 1) := by decide +kernel
theorem dX10_weighFalls_46 : decode cX10_weighFalls 46 = .ok (.invokevirtual 72, 3) := by decide +kernel
theorem dX10_weighFalls_49 : decode cX10_weighFalls 49 = .ok (.aload_n 0, 1) := by decide +kernel
theorem dX10_weighFalls_50 : decode cX10_weighFalls 50 = .ok (.getfield 17, 3) := by decide +kernel
theorem dX10_weighFalls_53 : decode cX10_weighFalls 53 = .ok (.iload_n 1, 1) := by decide +kernel
theorem dX10_weighFalls_54 : decode cX10_weighFalls 54 = .ok (.aload_n 0, 1) := by decide +kernel
theorem dX10_weighFalls_55 : decode cX10_weighFalls 55 = .ok (.getfield 27, 3) := by decide +kernel
theorem dX10_weighFalls_58 : decode cX10_weighFalls 58 = .ok (.getfield 78, 3) := by decide +kernel
theorem dX10_weighFalls_61 : decode cX10_weighFalls 61 = .ok (.iastore, 1) := by decide +kernel
theorem dX10_weighFalls_62 : decode cX10_weighFalls 62 = .ok (.aload_n 0, 1) := by decide +kernel
theorem dX10_weighFalls_63 : decode cX10_weighFalls 63 = .ok (.getfield 20, 3) := by decide +kernel
theorem dX10_weighFalls_66 : decode cX10_weighFalls 66 = .ok (.iload_n 1, 1) := by decide +kernel
theorem dX10_weighFalls_67 : decode cX10_weighFalls 67 = .ok (.iconst 0, 1) := by decide +kernel
theorem dX10_weighFalls_68 : decode cX10_weighFalls 68 = .ok (.iastore, 1) := by decide +kernel
theorem dX10_weighFalls_69 : decode cX10_weighFalls 69 = .ok (.iconst 0, 1) := by decide +kernel
theorem dX10_weighFalls_70 : decode cX10_weighFalls 70 = .ok (.istore_n 2, 1) := by decide +kernel
theorem dX10_weighFalls_71 : decode cX10_weighFalls 71 = .ok (.iload_n 2, 1) := by decide +kernel
theorem dX10_weighFalls_72 : decode cX10_weighFalls 72 = .ok (.bipush 6, 2) := by decide +kernel
theorem dX10_weighFalls_74 : decode cX10_weighFalls 74 = .ok (.if_icmp .ge 36, 3) := by decide +kernel
theorem dX10_weighFalls_77 : decode cX10_weighFalls 77 = .ok (.aload_n 0, 1) := by decide +kernel
theorem dX10_weighFalls_78 : decode cX10_weighFalls 78 = .ok (.getfield 20, 3) := by decide +kernel
theorem dX10_weighFalls_81 : decode cX10_weighFalls 81 = .ok (.iload_n 1, 1) := by decide +kernel
theorem dX10_weighFalls_82 : decode cX10_weighFalls 82 = .ok (.dup2, 1) := by decide +kernel
theorem dX10_weighFalls_83 : decode cX10_weighFalls 83 = .ok (.iaload, 1) := by decide +kernel
theorem dX10_weighFalls_84 : decode cX10_weighFalls 84 = .ok (.aload_n 0, 1) := by decide +kernel
theorem dX10_weighFalls_85 : decode cX10_weighFalls 85 = .ok (.getfield 27, 3) := by decide +kernel
theorem dX10_weighFalls_88 : decode cX10_weighFalls 88 = .ok (.iload_n 2, 1) := by decide +kernel
theorem dX10_weighFalls_89 : decode cX10_weighFalls 89 = .ok (.invokevirtual 80, 3) := by decide +kernel
theorem dX10_weighFalls_92 : decode cX10_weighFalls 92 = .ok (.ifCond .le 9, 3) := by decide +kernel
theorem dX10_weighFalls_95 : decode cX10_weighFalls 95 = .ok (.iconst 1, 1) := by decide +kernel
theorem dX10_weighFalls_96 : decode cX10_weighFalls 96 = .ok (.iload_n 2, 1) := by decide +kernel
theorem dX10_weighFalls_97 : decode cX10_weighFalls 97 = .ok (.ishl, 1) := by decide +kernel
theorem dX10_weighFalls_98 : decode cX10_weighFalls 98 = .ok (.goto 4, 3) := by decide +kernel
theorem dX10_weighFalls_101 : decode cX10_weighFalls 101 = .ok (.iconst 0, 1) := by decide +kernel
theorem dX10_weighFalls_102 : decode cX10_weighFalls 102 = .ok (.ior, 1) := by decide +kernel
theorem dX10_weighFalls_103 : decode cX10_weighFalls 103 = .ok (.iastore, 1) := by decide +kernel
theorem dX10_weighFalls_104 : decode cX10_weighFalls 104 = .ok (.iinc 2 1, 3) := by decide +kernel
theorem dX10_weighFalls_107 : decode cX10_weighFalls 107 = .ok (.goto (-36), 3) := by decide +kernel
theorem dX10_weighFalls_110 : decode cX10_weighFalls 110 = .ok (.iinc 1 1, 3) := by decide +kernel
theorem dX10_weighFalls_113 : decode cX10_weighFalls 113 = .ok (.goto (-111), 3) := by decide +kernel
theorem dX10_weighFalls_116 : decode cX10_weighFalls 116 = .ok (.return_, 1) := by decide +kernel
theorem ok_yX10_weighFalls : yOk yX10_weighFalls 0 := ⟨by decide +kernel, by decide +kernel, by decide +kernel⟩
def fX10_weighFalls_71 (kB2 : St → Int32 → Option (St)) (n : Nat) : Nat → St → Int32 → Int32 → Option (St)
  | 0, _, _, _ => none
  | k + 1, st, v1, v2 => if (6 : Int32) ≤ v2 then (bnd (v1 + (1 : Int32)) (fun x19 => kB2 st x19)) else (gd (inB v1 10) ((fX6_cryingOf n st v2).bind (fun r22 => if r22 ≤ 0 then (gd (inB v1 10) (bnd (sI st 35 v1.toNatClampNeg ((gI st 35 v1.toNatClampNeg) ||| (0 : Int32))) (fun st26 => bnd (v2 + (1 : Int32)) (fun x28 => fX10_weighFalls_71 kB2 n k st26 v1 x28)))) else (gd (inB v1 10) (bnd (sI st 35 v1.toNatClampNeg ((gI st 35 v1.toNatClampNeg) ||| ((1 : Int32) <<< (v2 &&& 31)))) (fun st31 => bnd (v2 + (1 : Int32)) (fun x33 => fX10_weighFalls_71 kB2 n k st31 v1 x33)))))))
set_option maxHeartbeats 4000000 in
theorem tX10_weighFalls_71 {p : Program} {l : Launch} {e : Env} {s : State} {m : MethodId} {args : Array Value} {below : List Frame} {meth : Method} {c : Code} {X : WX} (C : Amb 65 X p s m args meth c cX10_weighFalls 3 RX10) (hr : meth.sig.returnType = none) {R : St} {n : Nat} {kB2 : St → Int32 → Option (St)} (hB2 : ∀ (st : St) (v1 : Int32) (H : Heap) (locs : List Loc) (ls : Array Slot), Wd EC 65 X s.heap st H locs → lv_has ls 3 [(0, .ref (xq X 32)), (1, .int v1)] → kB2 st v1 = some R → W p l e { frames := 4, cells := 0, slots := 0, locals := 103 } s m args below meth c H locs 0 0 (QV EC 65 X R below args s) (F0 m 2 ls [])) : ∀ (k : Nat) (st : St) (v1 : Int32) (v2 : Int32) (H : Heap) (locs : List Loc) (ls : Array Slot), Wd EC 65 X s.heap st H locs → lv_has ls 3 [(0, .ref (xq X 32)), (1, .int v1), (2, .int v2)] → fX10_weighFalls_71 kB2 n k st v1 v2 = some R → W p l e { frames := 4, cells := 0, slots := 0, locals := 103 } s m args below meth c H locs 0 0 (QV EC 65 X R below args s) (F0 m 71 ls []) := by
  obtain ⟨hx, hb, hml, hown, hts⟩ := id C.1
  intro k
  induction k with
  | zero => intro st v1 v2 H locs ls  hw hl hf; exact absurd (show none = some R from hf) (fun z => by cases z)
  | succ k ih =>
    intro st v1 v2 H locs ls  hw hl hf
    rw [fX10_weighFalls_71] at hf
    refine lv_iload_n hx hb dX10_weighFalls_71 rfl (lv_at hl 2 rfl) ?_
    refine lv_bipush (v := 6) hx hb dX10_weighFalls_72 (by decide) ?_
    refine lv_icmp_ge (tgt := 110) hx hb dX10_weighFalls_74 (by decide) (fun c18 => ?_) (fun c18 => ?_)
    · replace hf := ite_t hf c18
      obtain ⟨x19, e20⟩ : ∃ z : Int32, z = v1 + (1 : Int32) := ⟨_, rfl⟩
      replace hf := bnd_nm hf e20
      refine lv_iinc (v := x19) (lv' := [(1, .int x19), (0, .ref (xq X 32)), (2, .int v2)]) hx hb dX10_weighFalls_110 hl (k := 1) rfl (by rw [e20]; rfl) (by decide) rfl (fun ls hl => ?_)
      refine lv_goto (tgt := 2) hx hb dX10_weighFalls_113 (by decide) ?_
      exact hB2 st x19 _ _ _ hw (lv_sub hl [1, 0] rfl) hf
    · replace hf := ite_f hf c18
      refine lv_aload_n hx hb dX10_weighFalls_77 rfl (lv_at hl 0 rfl) ?_
      refine w_get (T := TX10) C hw (by decide) 6 kf_X10_20 (EC_32 X _ _) rfl inA10 (by decide) rfl dX10_weighFalls_78 ?_
      refine lv_iload_n hx hb dX10_weighFalls_81 rfl (lv_at hl 1 rfl) ?_
      refine lv_dup2_11 hx hb dX10_weighFalls_82 rfl rfl ?_
      obtain ⟨h21, hf⟩ := gd_some hf
      refine w_iald C hw (by decide) (EC_35 X _ _) h21 rfl dX10_weighFalls_83 ?_
      refine lv_aload_n hx hb dX10_weighFalls_84 rfl (lv_at hl 0 rfl) ?_
      refine w_get (T := TX10) C hw (by decide) 3 kf_X10_27 (EC_32 X _ _) rfl inA10 (by decide) rfl dX10_weighFalls_85 ?_
      refine lv_iload_n hx hb dX10_weighFalls_88 rfl (lv_at hl 2 rfl) ?_
      obtain ⟨r22, k23, hf⟩ := bd_some hf
      refine w_goI hw (w_runV (rest := [.int (gI st 35 v1.toNatClampNeg), .int v1, .ref (xq X 35)]) C hw (zX6_cryingOf _ _ n st v2 r22 k23) (by decide) (EC_24 X _ _) rfl km_X10_80 ki_yX6_cryingOf kv_X6_cryingOf kz_X6 kc_X6_cryingOf rfl ok_yX6_cryingOf ⟨Nat.le_of_ble_eq_true rfl, Nat.le_of_ble_eq_true rfl⟩ rfl rfl rfl rfl hl.1 (Nat.le_of_ble_eq_true rfl) dX10_weighFalls_89 ⟨Nat.zero_le _, Nat.zero_le _⟩) (fun H locs hw => ?_)
      refine lv_if_le (tgt := 101) hx hb dX10_weighFalls_92 (by decide) (fun c24 => ?_) (fun c24 => ?_)
      · replace hf := ite_t hf c24
        refine lv_iconst (v := 0) hx hb dX10_weighFalls_101 (by decide) ?_
        refine lv_ior hx hb dX10_weighFalls_102 ?_
        obtain ⟨h25, hf⟩ := gd_some hf
        obtain ⟨st26, es27⟩ : ∃ z : St, z = sI st 35 v1.toNatClampNeg ((gI st 35 v1.toNatClampNeg) ||| (0 : Int32)) := ⟨_, rfl⟩
        replace hf := bnd_nm hf es27
        refine w_iast C hw (by decide) (fun f9 => EC_35 X f9 _) h25 rfl dX10_weighFalls_103 (fun H locs hw => ?_)
        rw [← es27] at hw
        obtain ⟨x28, e29⟩ : ∃ z : Int32, z = v2 + (1 : Int32) := ⟨_, rfl⟩
        replace hf := bnd_nm hf e29
        refine lv_iinc (v := x28) (lv' := [(2, .int x28), (0, .ref (xq X 32)), (1, .int v1)]) hx hb dX10_weighFalls_104 hl (k := 2) rfl (by rw [e29]; rfl) (by decide) rfl (fun ls hl => ?_)
        refine lv_goto (tgt := 71) hx hb dX10_weighFalls_107 (by decide) ?_
        exact ih st26 v1 x28 _ _ _ hw (lv_sub hl [1, 2, 0] rfl) hf
      · replace hf := ite_f hf c24
        refine lv_iconst (v := 1) hx hb dX10_weighFalls_95 (by decide) ?_
        refine lv_iload_n hx hb dX10_weighFalls_96 rfl (lv_at hl 2 rfl) ?_
        refine lv_ishl hx hb dX10_weighFalls_97 ?_
        refine lv_goto (tgt := 102) hx hb dX10_weighFalls_98 (by decide) ?_
        refine lv_ior hx hb dX10_weighFalls_102 ?_
        obtain ⟨h30, hf⟩ := gd_some hf
        obtain ⟨st31, es32⟩ : ∃ z : St, z = sI st 35 v1.toNatClampNeg ((gI st 35 v1.toNatClampNeg) ||| ((1 : Int32) <<< (v2 &&& 31))) := ⟨_, rfl⟩
        replace hf := bnd_nm hf es32
        refine w_iast C hw (by decide) (fun f9 => EC_35 X f9 _) h30 rfl dX10_weighFalls_103 (fun H locs hw => ?_)
        rw [← es32] at hw
        obtain ⟨x33, e34⟩ : ∃ z : Int32, z = v2 + (1 : Int32) := ⟨_, rfl⟩
        replace hf := bnd_nm hf e34
        refine lv_iinc (v := x33) (lv' := [(2, .int x33), (0, .ref (xq X 32)), (1, .int v1)]) hx hb dX10_weighFalls_104 hl (k := 2) rfl (by rw [e34]; rfl) (by decide) rfl (fun ls hl => ?_)
        refine lv_goto (tgt := 71) hx hb dX10_weighFalls_107 (by decide) ?_
        exact ih st31 v1 x33 _ _ _ hw (lv_sub hl [1, 2, 0] rfl) hf
def fX10_weighFalls_2 (n : Nat) : Nat → St → Int32 → Option (St)
  | 0, _, _ => none
  | k + 1, st, v1 => if gI st 1 2 ≤ v1 then (some st) else ((fX3_fieldUnder n st v1).bind (fun r2 => (fX3_ownerOf st r2).bind (fun r4 => gd (inB v1 10) (bnd (sI st 33 v1.toNatClampNeg r4) (fun st7 => gd (inB v1 10) ((fX6_weigh n st7 v1 (gI st7 33 v1.toNatClampNeg) (-1 : Int32)).bind (fun r10 => gd (inB v1 10) (bnd (sI r10 34 v1.toNatClampNeg (gI r10 24 1)) (fun st13 => gd (inB v1 10) (bnd (sI st13 35 v1.toNatClampNeg (0 : Int32)) (fun st16 => fX10_weighFalls_71 (fX10_weighFalls_2 n k) n n st16 v1 (0 : Int32))))))))))))
set_option maxHeartbeats 4000000 in
theorem tX10_weighFalls_2 {p : Program} {l : Launch} {e : Env} {s : State} {m : MethodId} {args : Array Value} {below : List Frame} {meth : Method} {c : Code} {X : WX} (C : Amb 65 X p s m args meth c cX10_weighFalls 3 RX10) (hr : meth.sig.returnType = none) {R : St} {n : Nat} : ∀ (k : Nat) (st : St) (v1 : Int32) (H : Heap) (locs : List Loc) (ls : Array Slot), Wd EC 65 X s.heap st H locs → lv_has ls 3 [(0, .ref (xq X 32)), (1, .int v1)] → fX10_weighFalls_2 n k st v1 = some R → W p l e { frames := 4, cells := 0, slots := 0, locals := 103 } s m args below meth c H locs 0 0 (QV EC 65 X R below args s) (F0 m 2 ls []) := by
  obtain ⟨hx, hb, hml, hown, hts⟩ := id C.1
  intro k
  induction k with
  | zero => intro st v1 H locs ls  hw hl hf; exact absurd (show none = some R from hf) (fun z => by cases z)
  | succ k ih =>
    intro st v1 H locs ls  hw hl hf
    rw [fX10_weighFalls_2] at hf
    refine lv_iload_n hx hb dX10_weighFalls_2 rfl (lv_at hl 1 rfl) ?_
    refine lv_aload_n hx hb dX10_weighFalls_3 rfl (lv_at hl 0 rfl) ?_
    refine w_get (T := TX10) C hw (by decide) 2 kf_X10_23 (EC_32 X _ _) rfl inA10 (by decide) rfl dX10_weighFalls_4 ?_
    refine w_get (T := TX3) C hw (by decide) 2 kf_X10_40 (EC_1 X _ _) rfl inA3 (by decide) rfl dX10_weighFalls_7 ?_
    refine lv_icmp_ge (tgt := 116) hx hb dX10_weighFalls_10 (by decide) (fun c1 => ?_) (fun c1 => ?_)
    · replace hf := ite_t hf c1
      exact w_vret C hw hr (Option.some.inj hf) dX10_weighFalls_116
    · replace hf := ite_f hf c1
      refine lv_aload_n hx hb dX10_weighFalls_13 rfl (lv_at hl 0 rfl) ?_
      refine w_get (T := TX10) C hw (by decide) 4 kf_X10_11 (EC_32 X _ _) rfl inA10 (by decide) rfl dX10_weighFalls_14 ?_
      refine lv_iload_n hx hb dX10_weighFalls_17 rfl (lv_at hl 1 rfl) ?_
      refine lv_aload_n hx hb dX10_weighFalls_18 rfl (lv_at hl 0 rfl) ?_
      refine w_get (T := TX10) C hw (by decide) 2 kf_X10_23 (EC_32 X _ _) rfl inA10 (by decide) rfl dX10_weighFalls_19 ?_
      refine lv_aload_n hx hb dX10_weighFalls_22 rfl (lv_at hl 0 rfl) ?_
      refine w_get (T := TX10) C hw (by decide) 2 kf_X10_23 (EC_32 X _ _) rfl inA10 (by decide) rfl dX10_weighFalls_23 ?_
      refine lv_iload_n hx hb dX10_weighFalls_26 rfl (lv_at hl 1 rfl) ?_
      obtain ⟨r2, k3, hf⟩ := bd_some hf
      refine w_goI hw (w_runV (rest := [.ref (xq X 1), .int v1, .ref (xq X 33)]) C hw (zX3_fieldUnder _ _ n st v1 r2 k3) (by decide) (EC_1 X _ _) rfl km_X10_65 ki_yX3_fieldUnder kv_X3_fieldUnder kz_X3 kc_X3_fieldUnder rfl ok_yX3_fieldUnder ⟨Nat.le_of_ble_eq_true rfl, Nat.le_of_ble_eq_true rfl⟩ rfl rfl rfl rfl hl.1 (Nat.le_of_ble_eq_true rfl) dX10_weighFalls_27 ⟨Nat.zero_le _, Nat.zero_le _⟩) (fun H locs hw => ?_)
      obtain ⟨r4, k5, hf⟩ := bd_some hf
      refine w_goI hw (w_runV (rest := [.int v1, .ref (xq X 33)]) C hw (zX3_ownerOf _ _ st r2 r4 k5) (by decide) (EC_1 X _ _) rfl km_X10_69 ki_yX3_ownerOf kv_X3_ownerOf kz_X3 kc_X3_ownerOf rfl ok_yX3_ownerOf ⟨Nat.le_of_ble_eq_true rfl, Nat.le_of_ble_eq_true rfl⟩ rfl rfl rfl rfl hl.1 (Nat.le_of_ble_eq_true rfl) dX10_weighFalls_30 ⟨Nat.zero_le _, Nat.zero_le _⟩) (fun H locs hw => ?_)
      obtain ⟨h6, hf⟩ := gd_some hf
      obtain ⟨st7, es8⟩ : ∃ z : St, z = sI st 33 v1.toNatClampNeg r4 := ⟨_, rfl⟩
      replace hf := bnd_nm hf es8
      refine w_iast C hw (by decide) (fun f9 => EC_33 X f9 _) h6 rfl dX10_weighFalls_33 (fun H locs hw => ?_)
      rw [← es8] at hw
      refine lv_aload_n hx hb dX10_weighFalls_34 rfl (lv_at hl 0 rfl) ?_
      refine w_get (T := TX10) C hw (by decide) 3 kf_X10_27 (EC_32 X _ _) rfl inA10 (by decide) rfl dX10_weighFalls_35 ?_
      refine lv_iload_n hx hb dX10_weighFalls_38 rfl (lv_at hl 1 rfl) ?_
      refine lv_aload_n hx hb dX10_weighFalls_39 rfl (lv_at hl 0 rfl) ?_
      refine w_get (T := TX10) C hw (by decide) 4 kf_X10_11 (EC_32 X _ _) rfl inA10 (by decide) rfl dX10_weighFalls_40 ?_
      refine lv_iload_n hx hb dX10_weighFalls_43 rfl (lv_at hl 1 rfl) ?_
      obtain ⟨h9, hf⟩ := gd_some hf
      refine w_iald C hw (by decide) (EC_33 X _ _) h9 rfl dX10_weighFalls_44 ?_
      refine lv_iconst (v := -1) hx hb dX10_weighFalls_45 (by decide) ?_
      obtain ⟨r10, k11, hf⟩ := bd_some hf
      refine w_goV hw (w_runV (rest := []) C hw (zX6_weigh _ _ n st7 v1 (gI st7 33 v1.toNatClampNeg) (-1 : Int32) r10 k11) (by decide) (EC_24 X _ _) rfl km_X10_72 ki_yX6_weigh kv_X6_weigh kz_X6 kc_X6_weigh rfl ok_yX6_weigh ⟨Nat.le_of_ble_eq_true rfl, Nat.le_of_ble_eq_true rfl⟩ rfl rfl rfl rfl hl.1 (Nat.le_of_ble_eq_true rfl) dX10_weighFalls_46 ⟨Nat.zero_le _, Nat.zero_le _⟩) (fun H locs hw => ?_)
      refine lv_aload_n hx hb dX10_weighFalls_49 rfl (lv_at hl 0 rfl) ?_
      refine w_get (T := TX10) C hw (by decide) 5 kf_X10_17 (EC_32 X _ _) rfl inA10 (by decide) rfl dX10_weighFalls_50 ?_
      refine lv_iload_n hx hb dX10_weighFalls_53 rfl (lv_at hl 1 rfl) ?_
      refine lv_aload_n hx hb dX10_weighFalls_54 rfl (lv_at hl 0 rfl) ?_
      refine w_get (T := TX10) C hw (by decide) 3 kf_X10_27 (EC_32 X _ _) rfl inA10 (by decide) rfl dX10_weighFalls_55 ?_
      refine w_get (T := TX6) C hw (by decide) 1 kf_X10_78 (EC_24 X _ _) rfl inA6 (by decide) rfl dX10_weighFalls_58 ?_
      obtain ⟨h12, hf⟩ := gd_some hf
      obtain ⟨st13, es14⟩ : ∃ z : St, z = sI r10 34 v1.toNatClampNeg (gI r10 24 1) := ⟨_, rfl⟩
      replace hf := bnd_nm hf es14
      refine w_iast C hw (by decide) (fun f9 => EC_34 X f9 _) h12 rfl dX10_weighFalls_61 (fun H locs hw => ?_)
      rw [← es14] at hw
      refine lv_aload_n hx hb dX10_weighFalls_62 rfl (lv_at hl 0 rfl) ?_
      refine w_get (T := TX10) C hw (by decide) 6 kf_X10_20 (EC_32 X _ _) rfl inA10 (by decide) rfl dX10_weighFalls_63 ?_
      refine lv_iload_n hx hb dX10_weighFalls_66 rfl (lv_at hl 1 rfl) ?_
      refine lv_iconst (v := 0) hx hb dX10_weighFalls_67 (by decide) ?_
      obtain ⟨h15, hf⟩ := gd_some hf
      obtain ⟨st16, es17⟩ : ∃ z : St, z = sI st13 35 v1.toNatClampNeg (0 : Int32) := ⟨_, rfl⟩
      replace hf := bnd_nm hf es17
      refine w_iast C hw (by decide) (fun f9 => EC_35 X f9 _) h15 rfl dX10_weighFalls_68 (fun H locs hw => ?_)
      rw [← es17] at hw
      refine lv_iconst (v := 0) hx hb dX10_weighFalls_69 (by decide) ?_
      refine lv_istore_n (lv' := [(2, .int (0 : Int32)), (0, .ref (xq X 32)), (1, .int v1)]) hx hb dX10_weighFalls_70 rfl hl (by decide) rfl (fun ls hl => ?_)
      exact tX10_weighFalls_71 C hr ih n st16 v1 (0 : Int32) _ _ _ hw (lv_sub hl [1, 2, 0] rfl) hf
def fX10_weighFalls (n : Nat) (st : St) : Option (St) := fX10_weighFalls_2 n n st (0 : Int32)
set_option maxHeartbeats 4000000 in
theorem zX10_weighFalls (l : Launch) (X : WX) (n : Nat) (st : St)  (R : St) (hf : fX10_weighFalls n st = some R) : CtV l yX10_weighFalls cX10_weighFalls 3 ({ frames := 4, cells := 0, slots := 0, locals := 103 }) EC 65 X [.ref (xq X 32)] st R := by
  refine ct_in (own := RX10) (by decide +kernel) rfl (Nat.le_of_ble_eq_true rfl) (fun p e s m below meth c C hr hw ls hl => ?_)
  obtain ⟨hx, hb, hml, hown, hts⟩ := id C.1
  have hl : lv_has ls 3 [(0, .ref (xq X 32))] := hl
  unfold fX10_weighFalls at hf
  refine lv_iconst (v := 0) hx hb dX10_weighFalls_0 (by decide) ?_
  refine lv_istore_n (lv' := [(1, .int (0 : Int32)), (0, .ref (xq X 32))]) hx hb dX10_weighFalls_1 rfl hl (by decide) rfl (fun ls hl => ?_)
  exact tX10_weighFalls_2 C hr n st (0 : Int32) _ _ _ hw (lv_sub hl [1, 0] rfl) hf
theorem dX10_paidAlone_0 : decode cX10_paidAlone 0 = .ok (.aload_n 0, 1) := by decide +kernel
theorem dX10_paidAlone_1 : decode cX10_paidAlone 1 = .ok (.getfield 11, 3) := by decide +kernel
theorem dX10_paidAlone_4 : decode cX10_paidAlone 4 = .ok (.iload_n 1, 1) := by decide +kernel
theorem dX10_paidAlone_5 : decode cX10_paidAlone 5 = .ok (.iaload, 1) := by decide +kernel
theorem dX10_paidAlone_6 : decode cX10_paidAlone 6 = .ok (.ifCond .ge 5, 3) := by decide +kernel
theorem dX10_paidAlone_9 : decode cX10_paidAlone 9 = .ok (.iconst (-1), 1) := by decide +kernel
theorem dX10_paidAlone_10 : decode cX10_paidAlone 10 = .ok (.ireturn, 1) := by decide +kernel
theorem dX10_paidAlone_11 : decode cX10_paidAlone 11 = .ok (.iload_n 2, 1) := by decide +kernel
theorem dX10_paidAlone_12 : decode cX10_paidAlone 12 = .ok (.iconst 1, 1) := by decide +kernel
theorem dX10_paidAlone_13 : decode cX10_paidAlone 13 = .ok (.aload_n 0, 1) := by decide +kernel
theorem dX10_paidAlone_14 : decode cX10_paidAlone 14 = .ok (.getfield 11, 3) := by decide +kernel
theorem dX10_paidAlone_17 : decode cX10_paidAlone 17 = .ok (.iload_n 1, 1) := by decide +kernel
theorem dX10_paidAlone_18 : decode cX10_paidAlone 18 = .ok (.iaload, 1) := by decide +kernel
theorem dX10_paidAlone_19 : decode cX10_paidAlone 19 = .ok (.ishl, 1) := by decide +kernel
theorem dX10_paidAlone_20 : decode cX10_paidAlone 20 = .ok (.iconst (-1), 1) := by decide +kernel
theorem dX10_paidAlone_21 : decode cX10_paidAlone 21 = .ok (.ixor, 1) := by decide +kernel
theorem dX10_paidAlone_22 : decode cX10_paidAlone 22 = .ok (.iand, 1) := by decide +kernel
theorem dX10_paidAlone_23 : decode cX10_paidAlone 23 = .ok (.istore_n 3, 1) := by decide +kernel
theorem dX10_paidAlone_24 : decode cX10_paidAlone 24 = .ok (.iconst 0, 1) := by decide +kernel
theorem dX10_paidAlone_25 : decode cX10_paidAlone 25 = .ok (.istore 4, 2) := by decide +kernel
theorem dX10_paidAlone_27 : decode cX10_paidAlone 27 = .ok (.iload 4, 2) := by decide +kernel
theorem dX10_paidAlone_29 : decode cX10_paidAlone 29 = .ok (.bipush 6, 2) := by decide +kernel
theorem dX10_paidAlone_31 : decode cX10_paidAlone 31 = .ok (.if_icmp .ge 20, 3) := by decide +kernel
theorem dX10_paidAlone_34 : decode cX10_paidAlone 34 = .ok (.iload_n 3, 1) := by decide +kernel
theorem dX10_paidAlone_35 : decode cX10_paidAlone 35 = .ok (.iconst 1, 1) := by decide +kernel
theorem dX10_paidAlone_36 : decode cX10_paidAlone 36 = .ok (.iload 4, 2) := by decide +kernel
theorem dX10_paidAlone_38 : decode cX10_paidAlone 38 = .ok (.ishl, 1) := by decide +kernel
theorem dX10_paidAlone_39 : decode cX10_paidAlone 39 = .ok (.if_icmp .ne 6, 3) := by decide +kernel
theorem dX10_paidAlone_42 : decode cX10_paidAlone 42 = .ok (.iload 4, 2) := by decide +kernel
theorem dX10_paidAlone_44 : decode cX10_paidAlone 44 = .ok (.ireturn, 1) := by decide +kernel
theorem dX10_paidAlone_45 : decode cX10_paidAlone 45 = .ok (.iinc 4 1, 3) := by decide +kernel
theorem dX10_paidAlone_48 : decode cX10_paidAlone 48 = .ok (.goto (-21), 3) := by decide +kernel
theorem dX10_paidAlone_51 : decode cX10_paidAlone 51 = .ok (.iconst (-1), 1) := by decide +kernel
theorem dX10_paidAlone_52 : decode cX10_paidAlone 52 = .ok (.ireturn, 1) := by decide +kernel
theorem ok_yX10_paidAlone : yOk yX10_paidAlone 2 := ⟨by decide +kernel, by decide +kernel, by decide +kernel⟩
def fX10_paidAlone_27 (n : Nat) (st : St) : Nat → Int32 → Int32 → Option (Int32)
  | 0, _, _ => none
  | k + 1, v3, v4 => if (6 : Int32) ≤ v4 then (some (-1 : Int32)) else (if v3 = (1 : Int32) <<< (v4 &&& 31) then (some v4) else (bnd (v4 + (1 : Int32)) (fun x8 => fX10_paidAlone_27 n st k v3 x8)))
set_option maxHeartbeats 4000000 in
theorem tX10_paidAlone_27 {p : Program} {l : Launch} {e : Env} {s : State} {m : MethodId} {args : Array Value} {below : List Frame} {meth : Method} {c : Code} {X : WX} (C : Amb 65 X p s m args meth c cX10_paidAlone 5 RX10) (hr : meth.sig.returnType = some .int) {R : Int32} {n : Nat} {st : St} : ∀ (k : Nat) (v3 : Int32) (v4 : Int32) (H : Heap) (locs : List Loc) (ls : Array Slot), Wd EC 65 X s.heap st H locs → lv_has ls 5 [(3, .int v3), (4, .int v4)] → fX10_paidAlone_27 n st k v3 v4 = some R → W p l e { frames := 0, cells := 0, slots := 0, locals := 0 } s m args below meth c H locs 0 0 (QI EC 65 X R st below args s) (F0 m 27 ls []) := by
  obtain ⟨hx, hb, hml, hown, hts⟩ := id C.1
  intro k
  induction k with
  | zero => intro v3 v4 H locs ls  hw hl hf; exact absurd (show none = some R from hf) (fun z => by cases z)
  | succ k ih =>
    intro v3 v4 H locs ls  hw hl hf
    rw [fX10_paidAlone_27] at hf
    refine lv_iload hx hb dX10_paidAlone_27 (lv_at hl 1 rfl) ?_
    refine lv_bipush (v := 6) hx hb dX10_paidAlone_29 (by decide) ?_
    refine lv_icmp_ge (tgt := 51) hx hb dX10_paidAlone_31 (by decide) (fun c6 => ?_) (fun c6 => ?_)
    · replace hf := ite_t hf c6
      refine lv_iconst (v := -1) hx hb dX10_paidAlone_51 (by decide) ?_
      exact w_iret C hw hr (Option.some.inj hf) rfl dX10_paidAlone_52
    · replace hf := ite_f hf c6
      refine lv_iload_n hx hb dX10_paidAlone_34 rfl (lv_at hl 0 rfl) ?_
      refine lv_iconst (v := 1) hx hb dX10_paidAlone_35 (by decide) ?_
      refine lv_iload hx hb dX10_paidAlone_36 (lv_at hl 1 rfl) ?_
      refine lv_ishl hx hb dX10_paidAlone_38 ?_
      refine lv_icmp_ne (tgt := 45) hx hb dX10_paidAlone_39 (by decide) (fun c7 => ?_) (fun c7 => ?_)
      · replace hf := ite_f hf c7
        obtain ⟨x8, e9⟩ : ∃ z : Int32, z = v4 + (1 : Int32) := ⟨_, rfl⟩
        replace hf := bnd_nm hf e9
        refine lv_iinc (v := x8) (lv' := [(4, .int x8), (3, .int v3)]) hx hb dX10_paidAlone_45 hl (k := 1) rfl (by rw [e9]; rfl) (by decide) rfl (fun ls hl => ?_)
        refine lv_goto (tgt := 27) hx hb dX10_paidAlone_48 (by decide) ?_
        exact ih v3 x8 _ _ _ hw (lv_sub hl [1, 0] rfl) hf
      · replace hf := ite_t hf c7
        refine lv_iload hx hb dX10_paidAlone_42 (lv_at hl 1 rfl) ?_
        exact w_iret C hw hr (Option.some.inj hf) rfl dX10_paidAlone_44
def fX10_paidAlone (n : Nat) (st : St) (a1 : Int32) (a2 : Int32) : Option (Int32) := gd (inB a1 10) (if 0 ≤ gI st 33 a1.toNatClampNeg then (gd (inB a1 10) (bnd (a2 &&& (((1 : Int32) <<< ((gI st 33 a1.toNatClampNeg) &&& 31)) ^^^ (-1 : Int32))) (fun x4 => fX10_paidAlone_27 n st n x4 (0 : Int32)))) else (some (-1 : Int32)))
set_option maxHeartbeats 4000000 in
theorem zX10_paidAlone (l : Launch) (X : WX) (n : Nat) (st : St) (a1 : Int32) (a2 : Int32) (R : Int32) (hf : fX10_paidAlone n st a1 a2 = some R) : CtI l yX10_paidAlone cX10_paidAlone 5 .int ({ frames := 0, cells := 0, slots := 0, locals := 0 }) EC 65 X [.ref (xq X 32), .int a1, .int a2] st R st := by
  refine ct_in (own := RX10) (by decide +kernel) rfl (Nat.le_of_ble_eq_true rfl) (fun p e s m below meth c C hr hw ls hl => ?_)
  obtain ⟨hx, hb, hml, hown, hts⟩ := id C.1
  have hl : lv_has ls 5 [(0, .ref (xq X 32)), (1, .int a1), (2, .int a2)] := hl
  unfold fX10_paidAlone at hf
  refine lv_aload_n hx hb dX10_paidAlone_0 rfl (lv_at hl 0 rfl) ?_
  refine w_get (T := TX10) C hw (by decide) 4 kf_X10_11 (EC_32 X _ _) rfl inA10 (by decide) rfl dX10_paidAlone_1 ?_
  refine lv_iload_n hx hb dX10_paidAlone_4 rfl (lv_at hl 1 rfl) ?_
  obtain ⟨h1, hf⟩ := gd_some hf
  refine w_iald C hw (by decide) (EC_33 X _ _) h1 rfl dX10_paidAlone_5 ?_
  refine lv_if_ge (tgt := 11) hx hb dX10_paidAlone_6 (by decide) (fun c2 => ?_) (fun c2 => ?_)
  · replace hf := ite_t hf c2
    refine lv_iload_n hx hb dX10_paidAlone_11 rfl (lv_at hl 2 rfl) ?_
    refine lv_iconst (v := 1) hx hb dX10_paidAlone_12 (by decide) ?_
    refine lv_aload_n hx hb dX10_paidAlone_13 rfl (lv_at hl 0 rfl) ?_
    refine w_get (T := TX10) C hw (by decide) 4 kf_X10_11 (EC_32 X _ _) rfl inA10 (by decide) rfl dX10_paidAlone_14 ?_
    refine lv_iload_n hx hb dX10_paidAlone_17 rfl (lv_at hl 1 rfl) ?_
    obtain ⟨h3, hf⟩ := gd_some hf
    refine w_iald C hw (by decide) (EC_33 X _ _) h3 rfl dX10_paidAlone_18 ?_
    refine lv_ishl hx hb dX10_paidAlone_19 ?_
    refine lv_iconst (v := -1) hx hb dX10_paidAlone_20 (by decide) ?_
    refine lv_ixor hx hb dX10_paidAlone_21 ?_
    refine lv_iand hx hb dX10_paidAlone_22 ?_
    refine lv_topi (fun x4 e5 => ?_)
    replace hf := bnd_nm hf e5
    refine lv_istore_n (lv' := [(3, .int x4), (0, .ref (xq X 32)), (1, .int a1), (2, .int a2)]) hx hb dX10_paidAlone_23 rfl hl (by decide) rfl (fun ls hl => ?_)
    refine lv_iconst (v := 0) hx hb dX10_paidAlone_24 (by decide) ?_
    refine lv_istore (lv' := [(4, .int (0 : Int32)), (3, .int x4), (0, .ref (xq X 32)), (1, .int a1), (2, .int a2)]) hx hb dX10_paidAlone_25 hl (by decide) rfl (fun ls hl => ?_)
    exact tX10_paidAlone_27 C hr n x4 (0 : Int32) _ _ _ hw (lv_sub hl [1, 0] rfl) hf
  · replace hf := ite_f hf c2
    refine lv_iconst (v := -1) hx hb dX10_paidAlone_9 (by decide) ?_
    exact w_iret C hw hr (Option.some.inj hf) rfl dX10_paidAlone_10
theorem dX10_firstUnlike_0 : decode cX10_firstUnlike 0 = .ok (.aload_n 0, 1) := by decide +kernel
theorem dX10_firstUnlike_1 : decode cX10_firstUnlike 1 = .ok (.invokevirtual 31, 3) := by decide +kernel
theorem dX10_firstUnlike_4 : decode cX10_firstUnlike 4 = .ok (.iconst 0, 1) := by decide +kernel
theorem dX10_firstUnlike_5 : decode cX10_firstUnlike 5 = .ok (.istore_n 2, 1) := by decide +kernel
theorem dX10_firstUnlike_6 : decode cX10_firstUnlike 6 = .ok (.iload_n 2, 1) := by decide +kernel
theorem dX10_firstUnlike_7 : decode cX10_firstUnlike 7 = .ok (.aload_n 1, 1) := by decide +kernel
theorem dX10_firstUnlike_8 : decode cX10_firstUnlike 8 = .ok (.getfield 34, 3) := by decide +kernel
theorem dX10_firstUnlike_11 : decode cX10_firstUnlike 11 = .ok (.if_icmp .ge 44, 3) := by decide +kernel
theorem dX10_firstUnlike_14 : decode cX10_firstUnlike 14 = .ok (.iload_n 2, 1) := by decide +kernel
theorem dX10_firstUnlike_15 : decode cX10_firstUnlike 15 = .ok (.aload_n 0, 1) := by decide +kernel
theorem dX10_firstUnlike_16 : decode cX10_firstUnlike 16 = .ok (.getfield 23, 3) := by decide +kernel
theorem dX10_firstUnlike_19 : decode cX10_firstUnlike 19 = .ok (.getfield 40, 3) := by decide +kernel
theorem dX10_firstUnlike_22 : decode cX10_firstUnlike 22 = .ok (.if_icmp .ge 25, 3) := by decide +kernel
theorem dX10_firstUnlike_25 : decode cX10_firstUnlike 25 = .ok (.aload_n 1, 1) := by decide +kernel
theorem dX10_firstUnlike_26 : decode cX10_firstUnlike 26 = .ok (.getfield 43, 3) := by decide +kernel
theorem dX10_firstUnlike_29 : decode cX10_firstUnlike 29 = .ok (.iload_n 2, 1) := by decide +kernel
theorem dX10_firstUnlike_30 : decode cX10_firstUnlike 30 = .ok (.laload, 1) := by decide +kernel
theorem dX10_firstUnlike_31 : decode cX10_firstUnlike 31 = .ok (.aload_n 0, 1) := by decide +kernel
theorem dX10_firstUnlike_32 : decode cX10_firstUnlike 32 = .ok (.iload_n 2, 1) := by decide +kernel
theorem dX10_firstUnlike_33 : decode cX10_firstUnlike 33 = .ok (.aload_n 0, 1) := by decide +kernel
theorem dX10_firstUnlike_34 : decode cX10_firstUnlike 34 = .ok (.getfield 20, 3) := by decide +kernel
theorem dX10_firstUnlike_37 : decode cX10_firstUnlike 37 = .ok (.iload_n 2, 1) := by decide +kernel
theorem dX10_firstUnlike_38 : decode cX10_firstUnlike 38 = .ok (.iaload, 1) := by decide +kernel
theorem dX10_firstUnlike_39 : decode cX10_firstUnlike 39 = .ok (.invokevirtual 47, 3) := by decide +kernel
theorem dX10_firstUnlike_42 : decode cX10_firstUnlike 42 = .ok (.i2l, 1) := by decide +kernel
theorem dX10_firstUnlike_43 : decode cX10_firstUnlike 43 = .ok (.lcmp, 1) := by decide +kernel
theorem dX10_firstUnlike_44 : decode cX10_firstUnlike 44 = .ok (.ifCond .eq 5, 3) := by decide +kernel
theorem dX10_firstUnlike_47 : decode cX10_firstUnlike 47 = .ok (.iload_n 2, 1) := by decide +kernel
theorem dX10_firstUnlike_48 : decode cX10_firstUnlike 48 = .ok (.ireturn, 1) := by decide +kernel
theorem dX10_firstUnlike_49 : decode cX10_firstUnlike 49 = .ok (.iinc 2 1, 3) := by decide +kernel
theorem dX10_firstUnlike_52 : decode cX10_firstUnlike 52 = .ok (.goto (-46), 3) := by decide +kernel
theorem dX10_firstUnlike_55 : decode cX10_firstUnlike 55 = .ok (.bipush (-2), 2) := by decide +kernel
theorem dX10_firstUnlike_57 : decode cX10_firstUnlike 57 = .ok (.ireturn, 1) := by decide +kernel
theorem ok_yX10_firstUnlike : yOk yX10_firstUnlike 1 := ⟨by decide +kernel, by decide +kernel, by decide +kernel⟩
def fX10_firstUnlike_6 (n : Nat) : Nat → St → Nat → Int32 → Option (Int32 × St)
  | 0, _, _, _ => none
  | k + 1, st, j1, v2 => if gI st (53 + 2 * j1) 3 ≤ v2 then (some ((-2 : Int32), st)) else (if gI st 1 2 ≤ v2 then (some (v2, st)) else (gd (inB v2 60) (gd (inB v2 10) ((fX10_paidAlone n st v2 (gI st 35 v2.toNatClampNeg)).bind (fun r7 => if lg_cmp (gL st (54 + 2 * j1) v2.toNatClampNeg) r7.toInt64 = 0 then (bnd (v2 + (1 : Int32)) (fun x10 => fX10_firstUnlike_6 n k st j1 x10)) else (some (v2, st)))))))
set_option maxHeartbeats 4000000 in
theorem tX10_firstUnlike_6 {p : Program} {l : Launch} {e : Env} {s : State} {m : MethodId} {args : Array Value} {below : List Frame} {meth : Method} {c : Code} {X : WX} (C : Amb 65 X p s m args meth c cX10_firstUnlike 3 RX10) (hr : meth.sig.returnType = some .int) {R : Int32 × St} {n : Nat} : ∀ (k : Nat) (st : St) (j1 : Nat) (v2 : Int32) (H : Heap) (locs : List Loc) (ls : Array Slot), j1 < 6 → Wd EC 65 X s.heap st H locs → lv_has ls 3 [(0, .ref (xq X 32)), (1, .ref (xq X (53 + 2 * j1))), (2, .int v2)] → fX10_firstUnlike_6 n k st j1 v2 = some R → W p l e { frames := 5, cells := 0, slots := 0, locals := 125 } s m args below meth c H locs 0 0 (QI EC 65 X R.1 R.2 below args s) (F0 m 6 ls []) := by
  obtain ⟨hx, hb, hml, hown, hts⟩ := id C.1
  intro k
  induction k with
  | zero => intro st j1 v2 H locs ls hj1 hw hl hf; exact absurd (show none = some R from hf) (fun z => by cases z)
  | succ k ih =>
    intro st j1 v2 H locs ls hj1 hw hl hf
    rw [fX10_firstUnlike_6] at hf
    refine lv_iload_n hx hb dX10_firstUnlike_6 rfl (lv_at hl 2 rfl) ?_
    refine lv_aload_n hx hb dX10_firstUnlike_7 rfl (lv_at hl 1 rfl) ?_
    refine w_get (T := TX7) C hw (by have := hj1; omega) 3 kf_X10_34 (EC_sh X hj1 _ _) rfl inA7 (by decide) rfl dX10_firstUnlike_8 ?_
    refine lv_icmp_ge (tgt := 55) hx hb dX10_firstUnlike_11 (by decide) (fun c3 => ?_) (fun c3 => ?_)
    · replace hf := ite_t hf c3
      refine lv_bipush (v := -2) hx hb dX10_firstUnlike_55 (by decide) ?_
      exact w_iret C hw hr (so2 hf).1 (so2 hf).2 dX10_firstUnlike_57
    · replace hf := ite_f hf c3
      refine lv_iload_n hx hb dX10_firstUnlike_14 rfl (lv_at hl 2 rfl) ?_
      refine lv_aload_n hx hb dX10_firstUnlike_15 rfl (lv_at hl 0 rfl) ?_
      refine w_get (T := TX10) C hw (by decide) 2 kf_X10_23 (EC_32 X _ _) rfl inA10 (by decide) rfl dX10_firstUnlike_16 ?_
      refine w_get (T := TX3) C hw (by decide) 2 kf_X10_40 (EC_1 X _ _) rfl inA3 (by decide) rfl dX10_firstUnlike_19 ?_
      refine lv_icmp_ge (tgt := 47) hx hb dX10_firstUnlike_22 (by decide) (fun c4 => ?_) (fun c4 => ?_)
      · replace hf := ite_t hf c4
        refine lv_iload_n hx hb dX10_firstUnlike_47 rfl (lv_at hl 2 rfl) ?_
        exact w_iret C hw hr (so2 hf).1 (so2 hf).2 dX10_firstUnlike_48
      · replace hf := ite_f hf c4
        refine lv_aload_n hx hb dX10_firstUnlike_25 rfl (lv_at hl 1 rfl) ?_
        refine w_get (T := TX7) C hw (by have := hj1; omega) 4 kf_X10_43 (EC_sh X hj1 _ _) rfl inA7 (by decide) rfl dX10_firstUnlike_26 ?_
        refine lv_iload_n hx hb dX10_firstUnlike_29 rfl (lv_at hl 2 rfl) ?_
        obtain ⟨h5, hf⟩ := gd_some hf
        refine w_lald C hw (by have := hj1; omega) (EC_el X hj1 _ _) h5 rfl dX10_firstUnlike_30 ?_
        refine lv_aload_n hx hb dX10_firstUnlike_31 rfl (lv_at hl 0 rfl) ?_
        refine lv_iload_n hx hb dX10_firstUnlike_32 rfl (lv_at hl 2 rfl) ?_
        refine lv_aload_n hx hb dX10_firstUnlike_33 rfl (lv_at hl 0 rfl) ?_
        refine w_get (T := TX10) C hw (by decide) 6 kf_X10_20 (EC_32 X _ _) rfl inA10 (by decide) rfl dX10_firstUnlike_34 ?_
        refine lv_iload_n hx hb dX10_firstUnlike_37 rfl (lv_at hl 2 rfl) ?_
        obtain ⟨h6, hf⟩ := gd_some hf
        refine w_iald C hw (by decide) (EC_35 X _ _) h6 rfl dX10_firstUnlike_38 ?_
        obtain ⟨r7, k8, hf⟩ := bd_some hf
        refine w_goI hw (w_runV (rest := [.long (gL st (54 + 2 * j1) v2.toNatClampNeg)]) C hw (zX10_paidAlone _ _ n st v2 (gI st 35 v2.toNatClampNeg) r7 k8) (by decide) (EC_32 X _ _) rfl km_X10_47 ki_yX10_paidAlone kv_X10_paidAlone kz_X10 kc_X10_paidAlone rfl ok_yX10_paidAlone ⟨Nat.le_of_ble_eq_true rfl, Nat.le_of_ble_eq_true rfl⟩ rfl rfl rfl rfl hl.1 (Nat.le_of_ble_eq_true rfl) dX10_firstUnlike_39 ⟨Nat.zero_le _, Nat.zero_le _⟩) (fun H locs hw => ?_)
        refine lv_i2l (v := r7.toInt64) hx hb dX10_firstUnlike_42 rfl ?_
        refine W.lcmp hx hb dX10_firstUnlike_43 ?_
        refine lv_if_eq (tgt := 49) hx hb dX10_firstUnlike_44 (by decide) (fun c9 => ?_) (fun c9 => ?_)
        · replace hf := ite_t hf c9
          obtain ⟨x10, e11⟩ : ∃ z : Int32, z = v2 + (1 : Int32) := ⟨_, rfl⟩
          replace hf := bnd_nm hf e11
          refine lv_iinc (v := x10) (lv' := [(2, .int x10), (0, .ref (xq X 32)), (1, .ref (xq X (53 + 2 * j1)))]) hx hb dX10_firstUnlike_49 hl (k := 2) rfl (by rw [e11]; rfl) (by decide) rfl (fun ls hl => ?_)
          refine lv_goto (tgt := 6) hx hb dX10_firstUnlike_52 (by decide) ?_
          exact ih st j1 x10 _ _ _ hj1 hw (lv_sub hl [1, 2, 0] rfl) hf
        · replace hf := ite_f hf c9
          refine lv_iload_n hx hb dX10_firstUnlike_47 rfl (lv_at hl 2 rfl) ?_
          exact w_iret C hw hr (so2 hf).1 (so2 hf).2 dX10_firstUnlike_48
def fX10_firstUnlike (n : Nat) (st : St) (i1 : Nat) : Option (Int32 × St) := (fX10_weighFalls n st).bind (fun r1 => fX10_firstUnlike_6 n n r1 i1 (0 : Int32))
set_option maxHeartbeats 4000000 in
theorem zX10_firstUnlike (l : Launch) (X : WX) (n : Nat) (st : St) (i1 : Nat) (hi1 : i1 < 6) (R : Int32 × St) (hf : fX10_firstUnlike n st i1 = some R) : CtI l yX10_firstUnlike cX10_firstUnlike 3 .int ({ frames := 5, cells := 0, slots := 0, locals := 125 }) EC 65 X [.ref (xq X 32), .ref (xq X (53 + 2 * i1))] st R.1 R.2 := by
  refine ct_in (own := RX10) (by decide +kernel) rfl (Nat.le_of_ble_eq_true rfl) (fun p e s m below meth c C hr hw ls hl => ?_)
  obtain ⟨hx, hb, hml, hown, hts⟩ := id C.1
  have hl : lv_has ls 3 [(0, .ref (xq X 32)), (1, .ref (xq X (53 + 2 * i1)))] := hl
  unfold fX10_firstUnlike at hf
  refine lv_aload_n hx hb dX10_firstUnlike_0 rfl (lv_at hl 0 rfl) ?_
  obtain ⟨r1, k2, hf⟩ := bd_some hf
  refine w_goV hw (w_runV (rest := []) C hw (zX10_weighFalls _ _ n st r1 k2) (by decide) (EC_32 X _ _) rfl km_X10_31 ki_yX10_weighFalls kv_X10_weighFalls kz_X10 kc_X10_weighFalls rfl ok_yX10_weighFalls ⟨Nat.le_of_ble_eq_true rfl, Nat.le_of_ble_eq_true rfl⟩ rfl rfl rfl rfl hl.1 (Nat.le_of_ble_eq_true rfl) dX10_firstUnlike_1 ⟨Nat.zero_le _, Nat.zero_le _⟩) (fun H locs hw => ?_)
  refine lv_iconst (v := 0) hx hb dX10_firstUnlike_4 (by decide) ?_
  refine lv_istore_n (lv' := [(2, .int (0 : Int32)), (0, .ref (xq X 32)), (1, .ref (xq X (53 + 2 * i1)))]) hx hb dX10_firstUnlike_5 rfl hl (by decide) rfl (fun ls hl => ?_)
  exact tX10_firstUnlike_6 C hr n r1 i1 (0 : Int32) _ _ _ hi1 hw (lv_sub hl [1, 2, 0] rfl) hf
theorem dX10_isSoWith_0 : decode cX10_isSoWith 0 = .ok (.iconst 0, 1) := by decide +kernel
theorem dX10_isSoWith_1 : decode cX10_isSoWith 1 = .ok (.istore_n 3, 1) := by decide +kernel
theorem dX10_isSoWith_2 : decode cX10_isSoWith 2 = .ok (.iload_n 3, 1) := by decide +kernel
theorem dX10_isSoWith_3 : decode cX10_isSoWith 3 = .ok (.aload_n 1, 1) := by decide +kernel
theorem dX10_isSoWith_4 : decode cX10_isSoWith 4 = .ok (.getfield 34, 3) := by decide +kernel
theorem dX10_isSoWith_7 : decode cX10_isSoWith 7 = .ok (.if_icmp .ge 98, 3) := by decide +kernel
theorem dX10_isSoWith_10 : decode cX10_isSoWith 10 = .ok (.aload_n 0, 1) := by decide +kernel
theorem dX10_isSoWith_11 : decode cX10_isSoWith 11 = .ok (.getfield 27, 3) := by decide +kernel
theorem dX10_isSoWith_14 : decode cX10_isSoWith 14 = .ok (.iload_n 3, 1) := by decide +kernel
theorem dX10_isSoWith_15 : decode cX10_isSoWith 15 = .ok (.aload_n 0, 1) := by decide +kernel
theorem dX10_isSoWith_16 : decode cX10_isSoWith 16 = .ok (.getfield 11, 3) := by decide +kernel
theorem dX10_isSoWith_19 : decode cX10_isSoWith 19 = .ok (.iload_n 3, 1) := by decide +kernel
theorem dX10_isSoWith_20 : decode cX10_isSoWith 20 = .ok (.iaload, 1) := by decide +kernel
theorem dX10_isSoWith_21 : decode cX10_isSoWith 21 = .ok (.bipush 12, 2) := by decide +kernel
theorem dX10_isSoWith_23 : decode cX10_isSoWith 23 = .ok (.invokevirtual 83, 3) := by decide +kernel
theorem dX10_isSoWith_26 : decode cX10_isSoWith 26 = .ok (.istore 4, 2) := by decide +kernel
theorem dX10_isSoWith_28 : decode cX10_isSoWith 28 = .ok (.aload_n 0, 1) := by decide +kernel
theorem dX10_isSoWith_29 : decode cX10_isSoWith 29 = .ok (.getfield 20, 3) := by decide +kernel
theorem dX10_isSoWith_32 : decode cX10_isSoWith 32 = .ok (.iload_n 3, 1) := by decide +kernel
theorem dX10_isSoWith_33 : decode cX10_isSoWith 33 = .ok (.iaload, 1) := by decide +kernel
theorem dX10_isSoWith_34 : decode cX10_isSoWith 34 = .ok (.istore 5, 2) := by decide +kernel
theorem dX10_isSoWith_36 : decode cX10_isSoWith 36 = .ok (.iload 4, 2) := by decide +kernel
theorem dX10_isSoWith_38 : decode cX10_isSoWith 38 = .ok (.aload_n 0, 1) := by decide +kernel
theorem dX10_isSoWith_39 : decode cX10_isSoWith 39 = .ok (.getfield 17, 3) := by decide +kernel
theorem dX10_isSoWith_42 : decode cX10_isSoWith 42 = .ok (.iload_n 3, 1) := by decide +kernel
theorem dX10_isSoWith_43 : decode cX10_isSoWith 43 = .ok (.iaload, 1) := by decide +kernel
theorem dX10_isSoWith_44 : decode cX10_isSoWith 44 = .ok (.if_icmp .le 11, 3) := by decide +kernel
theorem dX10_isSoWith_47 : decode cX10_isSoWith 47 = .ok (.iconst 1, 1) := by decide +kernel
theorem dX10_isSoWith_48 : decode cX10_isSoWith 48 = .ok (.iload_n 2, 1) := by decide +kernel
theorem dX10_isSoWith_49 : decode cX10_isSoWith 49 = .ok (.ishl, 1) := by decide +kernel
theorem dX10_isSoWith_50 : decode cX10_isSoWith 50 = .ok (.istore 5, 2) := by decide +kernel
theorem dX10_isSoWith_52 : decode cX10_isSoWith 52 = .ok (.goto 27, 3) := by decide +kernel
theorem dX10_isSoWith_55 : decode cX10_isSoWith 55 = .ok (.iload 4, 2) := by decide +kernel
theorem dX10_isSoWith_57 : decode cX10_isSoWith 57 = .ok (.ifCond .le 22, 3) := by decide +kernel
theorem dX10_isSoWith_60 : decode cX10_isSoWith 60 = .ok (.iload 4, 2) := by decide +kernel
theorem dX10_isSoWith_62 : decode cX10_isSoWith 62 = .ok (.aload_n 0, 1) := by decide +kernel
theorem dX10_isSoWith_63 : decode cX10_isSoWith 63 = .ok (.getfield 17, 3) := by decide +kernel
theorem dX10_isSoWith_66 : decode cX10_isSoWith 66 = .ok (.iload_n 3, 1) := by decide +kernel
theorem dX10_isSoWith_67 : decode cX10_isSoWith 67 = .ok (.iaload, 1) := by decide +kernel
theorem dX10_isSoWith_68 : decode cX10_isSoWith 68 = .ok (.if_icmp .ne 11, 3) := by decide +kernel
theorem dX10_isSoWith_71 : decode cX10_isSoWith 71 = .ok (.iload 5, 2) := by decide +kernel
theorem dX10_isSoWith_73 : decode cX10_isSoWith 73 = .ok (.iconst 1, 1) := by decide +kernel
theorem dX10_isSoWith_74 : decode cX10_isSoWith 74 = .ok (.iload_n 2, 1) := by decide +kernel
theorem dX10_isSoWith_75 : decode cX10_isSoWith 75 = .ok (.ishl, 1) := by decide +kernel
theorem dX10_isSoWith_76 : decode cX10_isSoWith 76 = .ok (.ior, 1) := by decide +kernel
theorem dX10_isSoWith_77 : decode cX10_isSoWith 77 = .ok (.istore 5, 2) := by decide +kernel
theorem dX10_isSoWith_79 : decode cX10_isSoWith 79 = .ok (.aload_n 1, 1) := by decide +kernel
theorem dX10_isSoWith_80 : decode cX10_isSoWith 80 = .ok (.getfield 43, 3) := by decide +kernel
theorem dX10_isSoWith_83 : decode cX10_isSoWith 83 = .ok (.iload_n 3, 1) := by decide +kernel
theorem dX10_isSoWith_84 : decode cX10_isSoWith 84 = .ok (.laload, 1) := by decide +kernel
theorem dX10_isSoWith_85 : decode cX10_isSoWith 85 = .ok (.aload_n 0, 1) := by decide +kernel
theorem dX10_isSoWith_86 : decode cX10_isSoWith 86 = .ok (.iload_n 3, 1) := by decide +kernel
theorem dX10_isSoWith_87 : decode cX10_isSoWith 87 = .ok (.iload 5, 2) := by decide +kernel
theorem dX10_isSoWith_89 : decode cX10_isSoWith 89 = .ok (.invokevirtual 47, 3) := by decide +kernel
theorem dX10_isSoWith_92 : decode cX10_isSoWith 92 = .ok (.i2l, 1) := by decide +kernel
theorem dX10_isSoWith_93 : decode cX10_isSoWith 93 = .ok (.lcmp, 1) := by decide +kernel
theorem dX10_isSoWith_94 : decode cX10_isSoWith 94 = .ok (.ifCond .eq 5, 3) := by decide +kernel
theorem dX10_isSoWith_97 : decode cX10_isSoWith 97 = .ok (.iconst 0, 1) := by decide +kernel
theorem dX10_isSoWith_98 : decode cX10_isSoWith 98 = .ok (.ireturn, 1) := by decide +kernel
theorem dX10_isSoWith_99 : decode cX10_isSoWith 99 = .ok (.iinc 3 1, 3) := by decide +kernel
theorem dX10_isSoWith_102 : decode cX10_isSoWith 102 = .ok (.goto (-100), 3) := by decide +kernel
theorem dX10_isSoWith_105 : decode cX10_isSoWith 105 = .ok (.iconst 1, 1) := by decide +kernel
theorem dX10_isSoWith_106 : decode cX10_isSoWith 106 = .ok (.ireturn, 1) := by decide +kernel
theorem ok_yX10_isSoWith : yOk yX10_isSoWith 2 := ⟨by decide +kernel, by decide +kernel, by decide +kernel⟩
def fX10_isSoWith_79 (kB2 : St → Nat → Int32 → Int32 → Option (Bool × St)) (n : Nat) (st : St) (j1 : Nat) (v2 : Int32) (v3 : Int32) (v5 : Int32) : Option (Bool × St) := gd (inB v3 60) ((fX10_paidAlone n st v3 v5).bind (fun r18 => if lg_cmp (gL st (54 + 2 * j1) v3.toNatClampNeg) r18.toInt64 = 0 then (bnd (v3 + (1 : Int32)) (fun x21 => kB2 st j1 v2 x21)) else (some (false, st))))
set_option maxHeartbeats 4000000 in
theorem tX10_isSoWith_79 {p : Program} {l : Launch} {e : Env} {s : State} {m : MethodId} {args : Array Value} {below : List Frame} {meth : Method} {c : Code} {X : WX} (C : Amb 65 X p s m args meth c cX10_isSoWith 6 RX10) (hr : meth.sig.returnType = some .boolean) {R : Bool × St} {n : Nat} {kB2 : St → Nat → Int32 → Int32 → Option (Bool × St)} (hB2 : ∀ (st : St) (j1 : Nat) (v2 : Int32) (v3 : Int32) (H : Heap) (locs : List Loc) (ls : Array Slot), j1 < 6 → Wd EC 65 X s.heap st H locs → lv_has ls 6 [(0, .ref (xq X 32)), (1, .ref (xq X (53 + 2 * j1))), (2, .int v2), (3, .int v3)] → kB2 st j1 v2 v3 = some R → W p l e { frames := 3, cells := 0, slots := 0, locals := 78 } s m args below meth c H locs 0 0 (QI EC 65 X (bI R.1) R.2 below args s) (F0 m 2 ls [])) : ∀ (st : St) (j1 : Nat) (v2 : Int32) (v3 : Int32) (v5 : Int32) (H : Heap) (locs : List Loc) (ls : Array Slot), j1 < 6 → Wd EC 65 X s.heap st H locs → lv_has ls 6 [(0, .ref (xq X 32)), (1, .ref (xq X (53 + 2 * j1))), (2, .int v2), (3, .int v3), (5, .int v5)] → fX10_isSoWith_79 kB2 n st j1 v2 v3 v5 = some R → W p l e { frames := 3, cells := 0, slots := 0, locals := 78 } s m args below meth c H locs 0 0 (QI EC 65 X (bI R.1) R.2 below args s) (F0 m 79 ls []) := by
  obtain ⟨hx, hb, hml, hown, hts⟩ := id C.1
  intro st j1 v2 v3 v5 H locs ls hj1 hw hl hf
  unfold fX10_isSoWith_79 at hf
  refine lv_aload_n hx hb dX10_isSoWith_79 rfl (lv_at hl 1 rfl) ?_
  refine w_get (T := TX7) C hw (by have := hj1; omega) 4 kf_X10_43 (EC_sh X hj1 _ _) rfl inA7 (by decide) rfl dX10_isSoWith_80 ?_
  refine lv_iload_n hx hb dX10_isSoWith_83 rfl (lv_at hl 3 rfl) ?_
  obtain ⟨h17, hf⟩ := gd_some hf
  refine w_lald C hw (by have := hj1; omega) (EC_el X hj1 _ _) h17 rfl dX10_isSoWith_84 ?_
  refine lv_aload_n hx hb dX10_isSoWith_85 rfl (lv_at hl 0 rfl) ?_
  refine lv_iload_n hx hb dX10_isSoWith_86 rfl (lv_at hl 3 rfl) ?_
  refine lv_iload hx hb dX10_isSoWith_87 (lv_at hl 4 rfl) ?_
  obtain ⟨r18, k19, hf⟩ := bd_some hf
  refine w_goI hw (w_runV (rest := [.long (gL st (54 + 2 * j1) v3.toNatClampNeg)]) C hw (zX10_paidAlone _ _ n st v3 v5 r18 k19) (by decide) (EC_32 X _ _) rfl km_X10_47 ki_yX10_paidAlone kv_X10_paidAlone kz_X10 kc_X10_paidAlone rfl ok_yX10_paidAlone ⟨Nat.le_of_ble_eq_true rfl, Nat.le_of_ble_eq_true rfl⟩ rfl rfl rfl rfl hl.1 (Nat.le_of_ble_eq_true rfl) dX10_isSoWith_89 ⟨Nat.zero_le _, Nat.zero_le _⟩) (fun H locs hw => ?_)
  refine lv_i2l (v := r18.toInt64) hx hb dX10_isSoWith_92 rfl ?_
  refine W.lcmp hx hb dX10_isSoWith_93 ?_
  refine lv_if_eq (tgt := 99) hx hb dX10_isSoWith_94 (by decide) (fun c20 => ?_) (fun c20 => ?_)
  · replace hf := ite_t hf c20
    obtain ⟨x21, e22⟩ : ∃ z : Int32, z = v3 + (1 : Int32) := ⟨_, rfl⟩
    replace hf := bnd_nm hf e22
    refine lv_iinc (v := x21) (lv' := [(3, .int x21), (0, .ref (xq X 32)), (1, .ref (xq X (53 + 2 * j1))), (2, .int v2), (5, .int v5)]) hx hb dX10_isSoWith_99 hl (k := 3) rfl (by rw [e22]; rfl) (by decide) rfl (fun ls hl => ?_)
    refine lv_goto (tgt := 2) hx hb dX10_isSoWith_102 (by decide) ?_
    exact hB2 st j1 v2 x21 _ _ _ hj1 hw (lv_sub hl [1, 2, 3, 0] rfl) hf
  · replace hf := ite_f hf c20
    refine lv_iconst (v := 0) hx hb dX10_isSoWith_97 (by decide) ?_
    exact w_zret (b := false) C hw hr rfl (so2 hf).1 (so2 hf).2 dX10_isSoWith_98
def fX10_isSoWith_2 (n : Nat) : Nat → St → Nat → Int32 → Int32 → Option (Bool × St)
  | 0, _, _, _, _ => none
  | k + 1, st, j1, v2, v3 => if gI st (53 + 2 * j1) 3 ≤ v3 then (some (true, st)) else (gd (inB v3 10) ((fX6_countIf n st v3 (gI st 33 v3.toNatClampNeg) (12 : Int32)).bind (fun r3 => gd (inB v3 10) (bnd (gI r3.2 35 v3.toNatClampNeg) (fun x6 => gd (inB v3 10) (if r3.1 ≤ gI r3.2 34 v3.toNatClampNeg then (if r3.1 ≤ 0 then (fX10_isSoWith_79 (fX10_isSoWith_2 n k) n r3.2 j1 v2 v3 x6) else (gd (inB v3 10) (if r3.1 = gI r3.2 34 v3.toNatClampNeg then (bnd (x6 ||| ((1 : Int32) <<< (v2 &&& 31))) (fun x13 => fX10_isSoWith_79 (fX10_isSoWith_2 n k) n r3.2 j1 v2 v3 x13)) else (fX10_isSoWith_79 (fX10_isSoWith_2 n k) n r3.2 j1 v2 v3 x6)))) else (bnd ((1 : Int32) <<< (v2 &&& 31)) (fun x15 => fX10_isSoWith_79 (fX10_isSoWith_2 n k) n r3.2 j1 v2 v3 x15))))))))
set_option maxHeartbeats 4000000 in
theorem tX10_isSoWith_2 {p : Program} {l : Launch} {e : Env} {s : State} {m : MethodId} {args : Array Value} {below : List Frame} {meth : Method} {c : Code} {X : WX} (C : Amb 65 X p s m args meth c cX10_isSoWith 6 RX10) (hr : meth.sig.returnType = some .boolean) {R : Bool × St} {n : Nat} : ∀ (k : Nat) (st : St) (j1 : Nat) (v2 : Int32) (v3 : Int32) (H : Heap) (locs : List Loc) (ls : Array Slot), j1 < 6 → Wd EC 65 X s.heap st H locs → lv_has ls 6 [(0, .ref (xq X 32)), (1, .ref (xq X (53 + 2 * j1))), (2, .int v2), (3, .int v3)] → fX10_isSoWith_2 n k st j1 v2 v3 = some R → W p l e { frames := 3, cells := 0, slots := 0, locals := 78 } s m args below meth c H locs 0 0 (QI EC 65 X (bI R.1) R.2 below args s) (F0 m 2 ls []) := by
  obtain ⟨hx, hb, hml, hown, hts⟩ := id C.1
  intro k
  induction k with
  | zero => intro st j1 v2 v3 H locs ls hj1 hw hl hf; exact absurd (show none = some R from hf) (fun z => by cases z)
  | succ k ih =>
    intro st j1 v2 v3 H locs ls hj1 hw hl hf
    rw [fX10_isSoWith_2] at hf
    refine lv_iload_n hx hb dX10_isSoWith_2 rfl (lv_at hl 3 rfl) ?_
    refine lv_aload_n hx hb dX10_isSoWith_3 rfl (lv_at hl 1 rfl) ?_
    refine w_get (T := TX7) C hw (by have := hj1; omega) 3 kf_X10_34 (EC_sh X hj1 _ _) rfl inA7 (by decide) rfl dX10_isSoWith_4 ?_
    refine lv_icmp_ge (tgt := 105) hx hb dX10_isSoWith_7 (by decide) (fun c1 => ?_) (fun c1 => ?_)
    · replace hf := ite_t hf c1
      refine lv_iconst (v := 1) hx hb dX10_isSoWith_105 (by decide) ?_
      exact w_zret (b := true) C hw hr rfl (so2 hf).1 (so2 hf).2 dX10_isSoWith_106
    · replace hf := ite_f hf c1
      refine lv_aload_n hx hb dX10_isSoWith_10 rfl (lv_at hl 0 rfl) ?_
      refine w_get (T := TX10) C hw (by decide) 3 kf_X10_27 (EC_32 X _ _) rfl inA10 (by decide) rfl dX10_isSoWith_11 ?_
      refine lv_iload_n hx hb dX10_isSoWith_14 rfl (lv_at hl 3 rfl) ?_
      refine lv_aload_n hx hb dX10_isSoWith_15 rfl (lv_at hl 0 rfl) ?_
      refine w_get (T := TX10) C hw (by decide) 4 kf_X10_11 (EC_32 X _ _) rfl inA10 (by decide) rfl dX10_isSoWith_16 ?_
      refine lv_iload_n hx hb dX10_isSoWith_19 rfl (lv_at hl 3 rfl) ?_
      obtain ⟨h2, hf⟩ := gd_some hf
      refine w_iald C hw (by decide) (EC_33 X _ _) h2 rfl dX10_isSoWith_20 ?_
      refine lv_bipush (v := 12) hx hb dX10_isSoWith_21 (by decide) ?_
      obtain ⟨r3, k4, hf⟩ := bd_some hf
      refine w_goI hw (w_runV (rest := []) C hw (zX6_countIf _ _ n st v3 (gI st 33 v3.toNatClampNeg) (12 : Int32) r3 k4) (by decide) (EC_24 X _ _) rfl km_X10_83 ki_yX6_countIf kv_X6_countIf kz_X6 kc_X6_countIf rfl ok_yX6_countIf ⟨Nat.le_of_ble_eq_true rfl, Nat.le_of_ble_eq_true rfl⟩ rfl rfl rfl rfl hl.1 (Nat.le_of_ble_eq_true rfl) dX10_isSoWith_23 ⟨Nat.zero_le _, Nat.zero_le _⟩) (fun H locs hw => ?_)
      refine lv_istore (lv' := [(4, .int r3.1), (0, .ref (xq X 32)), (1, .ref (xq X (53 + 2 * j1))), (2, .int v2), (3, .int v3)]) hx hb dX10_isSoWith_26 hl (by decide) rfl (fun ls hl => ?_)
      refine lv_aload_n hx hb dX10_isSoWith_28 rfl (lv_at hl 1 rfl) ?_
      refine w_get (T := TX10) C hw (by decide) 6 kf_X10_20 (EC_32 X _ _) rfl inA10 (by decide) rfl dX10_isSoWith_29 ?_
      refine lv_iload_n hx hb dX10_isSoWith_32 rfl (lv_at hl 4 rfl) ?_
      obtain ⟨h5, hf⟩ := gd_some hf
      refine w_iald C hw (by decide) (EC_35 X _ _) h5 rfl dX10_isSoWith_33 ?_
      refine lv_topi (fun x6 e7 => ?_)
      replace hf := bnd_nm hf e7
      refine lv_istore (lv' := [(5, .int x6), (4, .int r3.1), (0, .ref (xq X 32)), (1, .ref (xq X (53 + 2 * j1))), (2, .int v2), (3, .int v3)]) hx hb dX10_isSoWith_34 hl (by decide) rfl (fun ls hl => ?_)
      refine lv_iload hx hb dX10_isSoWith_36 (lv_at hl 1 rfl) ?_
      refine lv_aload_n hx hb dX10_isSoWith_38 rfl (lv_at hl 2 rfl) ?_
      refine w_get (T := TX10) C hw (by decide) 5 kf_X10_17 (EC_32 X _ _) rfl inA10 (by decide) rfl dX10_isSoWith_39 ?_
      refine lv_iload_n hx hb dX10_isSoWith_42 rfl (lv_at hl 5 rfl) ?_
      obtain ⟨h8, hf⟩ := gd_some hf
      refine w_iald C hw (by decide) (EC_34 X _ _) h8 rfl dX10_isSoWith_43 ?_
      refine lv_icmp_le (tgt := 55) hx hb dX10_isSoWith_44 (by decide) (fun c9 => ?_) (fun c9 => ?_)
      · replace hf := ite_t hf c9
        refine lv_iload hx hb dX10_isSoWith_55 (lv_at hl 1 rfl) ?_
        refine lv_if_le (tgt := 79) hx hb dX10_isSoWith_57 (by decide) (fun c10 => ?_) (fun c10 => ?_)
        · replace hf := ite_t hf c10
          exact tX10_isSoWith_79 C hr ih r3.2 j1 v2 v3 x6 _ _ _ hj1 hw (lv_sub hl [2, 3, 4, 5, 0] rfl) hf
        · replace hf := ite_f hf c10
          refine lv_iload hx hb dX10_isSoWith_60 (lv_at hl 1 rfl) ?_
          refine lv_aload_n hx hb dX10_isSoWith_62 rfl (lv_at hl 2 rfl) ?_
          refine w_get (T := TX10) C hw (by decide) 5 kf_X10_17 (EC_32 X _ _) rfl inA10 (by decide) rfl dX10_isSoWith_63 ?_
          refine lv_iload_n hx hb dX10_isSoWith_66 rfl (lv_at hl 5 rfl) ?_
          obtain ⟨h11, hf⟩ := gd_some hf
          refine w_iald C hw (by decide) (EC_34 X _ _) h11 rfl dX10_isSoWith_67 ?_
          refine lv_icmp_ne (tgt := 79) hx hb dX10_isSoWith_68 (by decide) (fun c12 => ?_) (fun c12 => ?_)
          · replace hf := ite_f hf c12
            exact tX10_isSoWith_79 C hr ih r3.2 j1 v2 v3 x6 _ _ _ hj1 hw (lv_sub hl [2, 3, 4, 5, 0] rfl) hf
          · replace hf := ite_t hf c12
            refine lv_iload hx hb dX10_isSoWith_71 (lv_at hl 0 rfl) ?_
            refine lv_iconst (v := 1) hx hb dX10_isSoWith_73 (by decide) ?_
            refine lv_iload_n hx hb dX10_isSoWith_74 rfl (lv_at hl 4 rfl) ?_
            refine lv_ishl hx hb dX10_isSoWith_75 ?_
            refine lv_ior hx hb dX10_isSoWith_76 ?_
            refine lv_topi (fun x13 e14 => ?_)
            replace hf := bnd_nm hf e14
            refine lv_istore (lv' := [(5, .int x13), (4, .int r3.1), (0, .ref (xq X 32)), (1, .ref (xq X (53 + 2 * j1))), (2, .int v2), (3, .int v3)]) hx hb dX10_isSoWith_77 hl (by decide) rfl (fun ls hl => ?_)
            exact tX10_isSoWith_79 C hr ih r3.2 j1 v2 v3 x13 _ _ _ hj1 hw (lv_sub hl [2, 3, 4, 5, 0] rfl) hf
      · replace hf := ite_f hf c9
        refine lv_iconst (v := 1) hx hb dX10_isSoWith_47 (by decide) ?_
        refine lv_iload_n hx hb dX10_isSoWith_48 rfl (lv_at hl 4 rfl) ?_
        refine lv_ishl hx hb dX10_isSoWith_49 ?_
        refine lv_topi (fun x15 e16 => ?_)
        replace hf := bnd_nm hf e16
        refine lv_istore (lv' := [(5, .int x15), (4, .int r3.1), (0, .ref (xq X 32)), (1, .ref (xq X (53 + 2 * j1))), (2, .int v2), (3, .int v3)]) hx hb dX10_isSoWith_50 hl (by decide) rfl (fun ls hl => ?_)
        refine lv_goto (tgt := 79) hx hb dX10_isSoWith_52 (by decide) ?_
        exact tX10_isSoWith_79 C hr ih r3.2 j1 v2 v3 x15 _ _ _ hj1 hw (lv_sub hl [2, 3, 4, 5, 0] rfl) hf
def fX10_isSoWith (n : Nat) (st : St) (i1 : Nat) (a2 : Int32) : Option (Bool × St) := fX10_isSoWith_2 n n st i1 a2 (0 : Int32)
set_option maxHeartbeats 4000000 in
theorem zX10_isSoWith (l : Launch) (X : WX) (n : Nat) (st : St) (i1 : Nat) (a2 : Int32) (hi1 : i1 < 6) (R : Bool × St) (hf : fX10_isSoWith n st i1 a2 = some R) : CtI l yX10_isSoWith cX10_isSoWith 6 .boolean ({ frames := 3, cells := 0, slots := 0, locals := 78 }) EC 65 X [.ref (xq X 32), .ref (xq X (53 + 2 * i1)), .int a2] st (bI R.1) R.2 := by
  refine ct_in (own := RX10) (by decide +kernel) rfl (Nat.le_of_ble_eq_true rfl) (fun p e s m below meth c C hr hw ls hl => ?_)
  obtain ⟨hx, hb, hml, hown, hts⟩ := id C.1
  have hl : lv_has ls 6 [(0, .ref (xq X 32)), (1, .ref (xq X (53 + 2 * i1))), (2, .int a2)] := hl
  unfold fX10_isSoWith at hf
  refine lv_iconst (v := 0) hx hb dX10_isSoWith_0 (by decide) ?_
  refine lv_istore_n (lv' := [(3, .int (0 : Int32)), (0, .ref (xq X 32)), (1, .ref (xq X (53 + 2 * i1))), (2, .int a2)]) hx hb dX10_isSoWith_1 rfl hl (by decide) rfl (fun ls hl => ?_)
  exact tX10_isSoWith_2 C hr n st i1 a2 (0 : Int32) _ _ _ hi1 hw (lv_sub hl [1, 2, 3, 0] rfl) hf
theorem dX10_seekMinutes_0 : decode cX10_seekMinutes 0 = .ok (.aload_n 0, 1) := by decide +kernel
theorem dX10_seekMinutes_1 : decode cX10_seekMinutes 1 = .ok (.iconst 0, 1) := by decide +kernel
theorem dX10_seekMinutes_2 : decode cX10_seekMinutes 2 = .ok (.putfield 51, 3) := by decide +kernel
theorem dX10_seekMinutes_5 : decode cX10_seekMinutes 5 = .ok (.aload_n 0, 1) := by decide +kernel
theorem dX10_seekMinutes_6 : decode cX10_seekMinutes 6 = .ok (.bipush (-2), 2) := by decide +kernel
theorem dX10_seekMinutes_8 : decode cX10_seekMinutes 8 = .ok (.putfield 54, 3) := by decide +kernel
theorem dX10_seekMinutes_11 : decode cX10_seekMinutes 11 = .ok (.aload_n 1, 1) := by decide +kernel
theorem dX10_seekMinutes_12 : decode cX10_seekMinutes 12 = .ok (.getfield 34, 3) := by decide +kernel
theorem dX10_seekMinutes_15 : decode cX10_seekMinutes 15 = .ok (.aload_n 0, 1) := by decide +kernel
theorem dX10_seekMinutes_16 : decode cX10_seekMinutes 16 = .ok (.getfield 23, 3) := by decide +kernel
theorem dX10_seekMinutes_19 : decode cX10_seekMinutes 19 = .ok (.getfield 40, 3) := by decide +kernel
theorem dX10_seekMinutes_22 : decode cX10_seekMinutes 22 = .ok (.if_icmp .le 4, 3) := by decide +kernel
theorem dX10_seekMinutes_25 : decode cX10_seekMinutes 25 = .ok (.return_, 1) := by decide +kernel
theorem dX10_seekMinutes_26 : decode cX10_seekMinutes 26 = .ok (.aload_n 0, 1) := by decide +kernel
theorem dX10_seekMinutes_27 : decode cX10_seekMinutes 27 = .ok (.invokevirtual 31, 3) := by decide +kernel
theorem dX10_seekMinutes_30 : decode cX10_seekMinutes 30 = .ok (.iconst 0, 1) := by decide +kernel
theorem dX10_seekMinutes_31 : decode cX10_seekMinutes 31 = .ok (.istore 5, 2) := by decide +kernel
theorem dX10_seekMinutes_33 : decode cX10_seekMinutes 33 = .ok (.iload 5, 2) := by decide +kernel
theorem dX10_seekMinutes_35 : decode cX10_seekMinutes 35 = .ok (.sipush 1000, 3) := by decide +kernel
theorem dX10_seekMinutes_38 : decode cX10_seekMinutes 38 = .ok (.if_icmp .ge 63, 3) := by decide +kernel
theorem dX10_seekMinutes_41 : decode cX10_seekMinutes 41 = .ok (.aload_n 0, 1) := by decide +kernel
theorem dX10_seekMinutes_42 : decode cX10_seekMinutes 42 = .ok (.getfield 23, 3) := by decide +kernel
theorem dX10_seekMinutes_45 : decode cX10_seekMinutes 45 = .ok (.bipush 12, 2) := by decide +kernel
theorem dX10_seekMinutes_47 : decode cX10_seekMinutes 47 = .ok (.iload_n 2, 1) := by decide +kernel
theorem dX10_seekMinutes_48 : decode cX10_seekMinutes 48 = .ok (.iload 5, 2) := by decide +kernel
theorem dX10_seekMinutes_50 : decode cX10_seekMinutes 50 = .ok (.iload_n 3, 1) := by decide +kernel
theorem dX10_seekMinutes_51 : decode cX10_seekMinutes 51 = .ok (.iload 4, 2) := by decide +kernel
theorem dX10_seekMinutes_53 : decode cX10_seekMinutes 53 = .ok (.invokevirtual 57, 3) := by decide +kernel
theorem dX10_seekMinutes_56 : decode cX10_seekMinutes 56 = .ok (.aload_n 0, 1) := by decide +kernel
theorem dX10_seekMinutes_57 : decode cX10_seekMinutes 57 = .ok (.aload_n 1, 1) := by decide +kernel
theorem dX10_seekMinutes_58 : decode cX10_seekMinutes 58 = .ok (.iload_n 2, 1) := by decide +kernel
theorem dX10_seekMinutes_59 : decode cX10_seekMinutes 59 = .ok (.invokevirtual 61, 3) := by decide +kernel
theorem dX10_seekMinutes_62 : decode cX10_seekMinutes 62 = .ok (.ifCond .eq 33, 3) := by decide +kernel
theorem dX10_seekMinutes_65 : decode cX10_seekMinutes 65 = .ok (.aload_n 0, 1) := by decide +kernel
theorem dX10_seekMinutes_66 : decode cX10_seekMinutes 66 = .ok (.aload_n 0, 1) := by decide +kernel
theorem dX10_seekMinutes_67 : decode cX10_seekMinutes 67 = .ok (.getfield 51, 3) := by decide +kernel
theorem dX10_seekMinutes_70 : decode cX10_seekMinutes 70 = .ok (.ifCond .ne 8, 3) := by decide +kernel
theorem dX10_seekMinutes_73 : decode cX10_seekMinutes 73 = .ok (.iload 5, 2) := by decide +kernel
theorem dX10_seekMinutes_75 : decode cX10_seekMinutes 75 = .ok (.goto 7, 3) := by decide +kernel
theorem dX10_seekMinutes_78 : decode cX10_seekMinutes 78 = .ok (.aload_n 0, 1) := by decide +kernel
theorem dX10_seekMinutes_79 : decode cX10_seekMinutes 79 = .ok (.getfield 54, 3) := by decide +kernel
theorem dX10_seekMinutes_82 : decode cX10_seekMinutes 82 = .ok (.putfield 54, 3) := by decide +kernel
theorem dX10_seekMinutes_85 : decode cX10_seekMinutes 85 = .ok (.aload_n 0, 1) := by decide +kernel
theorem dX10_seekMinutes_86 : decode cX10_seekMinutes 86 = .ok (.dup, 1) := by decide +kernel
theorem dX10_seekMinutes_87 : decode cX10_seekMinutes 87 = .ok (.getfield 51, 3) := by decide +kernel
theorem dX10_seekMinutes_90 : decode cX10_seekMinutes 90 = .ok (.iconst 1, 1) := by decide +kernel
theorem dX10_seekMinutes_91 : decode cX10_seekMinutes 91 = .ok (.iadd, 1) := by decide +kernel
theorem dX10_seekMinutes_92 : decode cX10_seekMinutes 92 = .ok (.putfield 51, 3) := by decide +kernel
theorem dX10_seekMinutes_95 : decode cX10_seekMinutes 95 = .ok (.iinc 5 1, 3) := by decide +kernel
theorem dX10_seekMinutes_98 : decode cX10_seekMinutes 98 = .ok (.goto (-65), 3) := by decide +kernel
theorem dX10_seekMinutes_101 : decode cX10_seekMinutes 101 = .ok (.return_, 1) := by decide +kernel
theorem ok_yX10_seekMinutes : yOk yX10_seekMinutes 4 := ⟨by decide +kernel, by decide +kernel, by decide +kernel⟩
def fX10_seekMinutes_33 (n : Nat) : Nat → St → Nat → Int32 → Int32 → Int32 → Int32 → Option (St)
  | 0, _, _, _, _, _, _ => none
  | k + 1, st, j1, v2, v3, v4, v5 => if (1000 : Int32) ≤ v5 then (some st) else ((fX3_placeCry st (12 : Int32) v2 v5 v3 v4).bind (fun r9 => (fX10_isSoWith n r9 j1 v2).bind (fun r11 => if bI r11.1 = 0 then (bnd (v5 + (1 : Int32)) (fun x14 => fX10_seekMinutes_33 n k r11.2 j1 v2 v3 v4 x14)) else (if gI r11.2 32 0 = 0 then (bnd (sI r11.2 32 1 v5) (fun st23 => bnd (sI st23 32 0 ((gI st23 32 0) + (1 : Int32))) (fun st25 => bnd (v5 + (1 : Int32)) (fun x27 => fX10_seekMinutes_33 n k st25 j1 v2 v3 v4 x27)))) else (bnd (sI r11.2 32 1 (gI r11.2 32 1)) (fun st17 => bnd (sI st17 32 0 ((gI st17 32 0) + (1 : Int32))) (fun st19 => bnd (v5 + (1 : Int32)) (fun x21 => fX10_seekMinutes_33 n k st19 j1 v2 v3 v4 x21))))))))
set_option maxHeartbeats 4000000 in
theorem tX10_seekMinutes_33 {p : Program} {l : Launch} {e : Env} {s : State} {m : MethodId} {args : Array Value} {below : List Frame} {meth : Method} {c : Code} {X : WX} (C : Amb 65 X p s m args meth c cX10_seekMinutes 6 RX10) (hr : meth.sig.returnType = none) {R : St} {n : Nat} : ∀ (k : Nat) (st : St) (j1 : Nat) (v2 : Int32) (v3 : Int32) (v4 : Int32) (v5 : Int32) (H : Heap) (locs : List Loc) (ls : Array Slot), j1 < 6 → Wd EC 65 X s.heap st H locs → lv_has ls 6 [(0, .ref (xq X 32)), (1, .ref (xq X (53 + 2 * j1))), (2, .int v2), (3, .int v3), (4, .int v4), (5, .int v5)] → fX10_seekMinutes_33 n k st j1 v2 v3 v4 v5 = some R → W p l e { frames := 5, cells := 0, slots := 0, locals := 125 } s m args below meth c H locs 0 0 (QV EC 65 X R below args s) (F0 m 33 ls []) := by
  obtain ⟨hx, hb, hml, hown, hts⟩ := id C.1
  intro k
  induction k with
  | zero => intro st j1 v2 v3 v4 v5 H locs ls hj1 hw hl hf; exact absurd (show none = some R from hf) (fun z => by cases z)
  | succ k ih =>
    intro st j1 v2 v3 v4 v5 H locs ls hj1 hw hl hf
    rw [fX10_seekMinutes_33] at hf
    refine lv_iload hx hb dX10_seekMinutes_33 (lv_at hl 5 rfl) ?_
    refine lv_sipush (v := 1000) hx hb dX10_seekMinutes_35 (by decide) ?_
    refine lv_icmp_ge (tgt := 101) hx hb dX10_seekMinutes_38 (by decide) (fun c8 => ?_) (fun c8 => ?_)
    · replace hf := ite_t hf c8
      exact w_vret C hw hr (Option.some.inj hf) dX10_seekMinutes_101
    · replace hf := ite_f hf c8
      refine lv_aload_n hx hb dX10_seekMinutes_41 rfl (lv_at hl 0 rfl) ?_
      refine w_get (T := TX10) C hw (by decide) 2 kf_X10_23 (EC_32 X _ _) rfl inA10 (by decide) rfl dX10_seekMinutes_42 ?_
      refine lv_bipush (v := 12) hx hb dX10_seekMinutes_45 (by decide) ?_
      refine lv_iload_n hx hb dX10_seekMinutes_47 rfl (lv_at hl 2 rfl) ?_
      refine lv_iload hx hb dX10_seekMinutes_48 (lv_at hl 5 rfl) ?_
      refine lv_iload_n hx hb dX10_seekMinutes_50 rfl (lv_at hl 3 rfl) ?_
      refine lv_iload hx hb dX10_seekMinutes_51 (lv_at hl 4 rfl) ?_
      obtain ⟨r9, k10, hf⟩ := bd_some hf
      refine w_goV hw (w_runV (rest := []) C hw (zX3_placeCry _ _ st (12 : Int32) v2 v5 v3 v4 r9 k10) (by decide) (EC_1 X _ _) rfl km_X10_57 ki_yX3_placeCry kv_X3_placeCry kz_X3 kc_X3_placeCry rfl ok_yX3_placeCry ⟨Nat.le_of_ble_eq_true rfl, Nat.le_of_ble_eq_true rfl⟩ rfl rfl rfl rfl hl.1 (Nat.le_of_ble_eq_true rfl) dX10_seekMinutes_53 ⟨Nat.zero_le _, Nat.zero_le _⟩) (fun H locs hw => ?_)
      refine lv_aload_n hx hb dX10_seekMinutes_56 rfl (lv_at hl 0 rfl) ?_
      refine lv_aload_n hx hb dX10_seekMinutes_57 rfl (lv_at hl 1 rfl) ?_
      refine lv_iload_n hx hb dX10_seekMinutes_58 rfl (lv_at hl 2 rfl) ?_
      obtain ⟨r11, k12, hf⟩ := bd_some hf
      refine w_goI hw (w_runV (rest := []) C hw (zX10_isSoWith _ _ n r9 j1 v2 hj1 r11 k12) (by decide) (EC_32 X _ _) rfl km_X10_61 ki_yX10_isSoWith kv_X10_isSoWith kz_X10 kc_X10_isSoWith rfl ok_yX10_isSoWith ⟨Nat.le_of_ble_eq_true rfl, Nat.le_of_ble_eq_true rfl⟩ rfl rfl rfl rfl hl.1 (Nat.le_of_ble_eq_true rfl) dX10_seekMinutes_59 ⟨Nat.zero_le _, Nat.zero_le _⟩) (fun H locs hw => ?_)
      refine lv_if_eq (tgt := 95) hx hb dX10_seekMinutes_62 (by decide) (fun c13 => ?_) (fun c13 => ?_)
      · replace hf := ite_t hf c13
        obtain ⟨x14, e15⟩ : ∃ z : Int32, z = v5 + (1 : Int32) := ⟨_, rfl⟩
        replace hf := bnd_nm hf e15
        refine lv_iinc (v := x14) (lv' := [(5, .int x14), (0, .ref (xq X 32)), (1, .ref (xq X (53 + 2 * j1))), (2, .int v2), (3, .int v3), (4, .int v4)]) hx hb dX10_seekMinutes_95 hl (k := 5) rfl (by rw [e15]; rfl) (by decide) rfl (fun ls hl => ?_)
        refine lv_goto (tgt := 33) hx hb dX10_seekMinutes_98 (by decide) ?_
        exact ih r11.2 j1 v2 v3 v4 x14 _ _ _ hj1 hw (lv_sub hl [1, 2, 3, 4, 5, 0] rfl) hf
      · replace hf := ite_f hf c13
        refine lv_aload_n hx hb dX10_seekMinutes_65 rfl (lv_at hl 0 rfl) ?_
        refine lv_aload_n hx hb dX10_seekMinutes_66 rfl (lv_at hl 0 rfl) ?_
        refine w_get (T := TX10) C hw (by decide) 0 kf_X10_51 (EC_32 X _ _) rfl inA10 (by decide) rfl dX10_seekMinutes_67 ?_
        refine lv_if_ne (tgt := 78) hx hb dX10_seekMinutes_70 (by decide) (fun c16 => ?_) (fun c16 => ?_)
        · replace hf := ite_f hf c16
          refine lv_aload_n hx hb dX10_seekMinutes_78 rfl (lv_at hl 0 rfl) ?_
          refine w_get (T := TX10) C hw (by decide) 1 kf_X10_54 (EC_32 X _ _) rfl inA10 (by decide) rfl dX10_seekMinutes_79 ?_
          obtain ⟨st17, es18⟩ : ∃ z : St, z = sI r11.2 32 1 (gI r11.2 32 1) := ⟨_, rfl⟩
          replace hf := bnd_nm hf es18
          refine w_puti (T := TX10) C hw (by decide) 1 kf_X10_54 (EC_32 X _ _) rfl inA10 tyX10_ok nmX10 (by decide) rfl rfl (Nat.le_of_ble_eq_true rfl) rfl dX10_seekMinutes_82 (fun H locs hw => ?_)
          rw [← es18] at hw
          refine lv_aload_n hx hb dX10_seekMinutes_85 rfl (lv_at hl 0 rfl) ?_
          refine lv_dup hx hb dX10_seekMinutes_86 rfl ?_
          refine w_get (T := TX10) C hw (by decide) 0 kf_X10_51 (EC_32 X _ _) rfl inA10 (by decide) rfl dX10_seekMinutes_87 ?_
          refine lv_iconst (v := 1) hx hb dX10_seekMinutes_90 (by decide) ?_
          refine lv_iadd hx hb dX10_seekMinutes_91 ?_
          obtain ⟨st19, es20⟩ : ∃ z : St, z = sI st17 32 0 ((gI st17 32 0) + (1 : Int32)) := ⟨_, rfl⟩
          replace hf := bnd_nm hf es20
          refine w_puti (T := TX10) C hw (by decide) 0 kf_X10_51 (EC_32 X _ _) rfl inA10 tyX10_ok nmX10 (by decide) rfl rfl (Nat.le_of_ble_eq_true rfl) rfl dX10_seekMinutes_92 (fun H locs hw => ?_)
          rw [← es20] at hw
          obtain ⟨x21, e22⟩ : ∃ z : Int32, z = v5 + (1 : Int32) := ⟨_, rfl⟩
          replace hf := bnd_nm hf e22
          refine lv_iinc (v := x21) (lv' := [(5, .int x21), (0, .ref (xq X 32)), (1, .ref (xq X (53 + 2 * j1))), (2, .int v2), (3, .int v3), (4, .int v4)]) hx hb dX10_seekMinutes_95 hl (k := 5) rfl (by rw [e22]; rfl) (by decide) rfl (fun ls hl => ?_)
          refine lv_goto (tgt := 33) hx hb dX10_seekMinutes_98 (by decide) ?_
          exact ih st19 j1 v2 v3 v4 x21 _ _ _ hj1 hw (lv_sub hl [1, 2, 3, 4, 5, 0] rfl) hf
        · replace hf := ite_t hf c16
          refine lv_iload hx hb dX10_seekMinutes_73 (lv_at hl 5 rfl) ?_
          refine lv_goto (tgt := 82) hx hb dX10_seekMinutes_75 (by decide) ?_
          obtain ⟨st23, es24⟩ : ∃ z : St, z = sI r11.2 32 1 v5 := ⟨_, rfl⟩
          replace hf := bnd_nm hf es24
          refine w_puti (T := TX10) C hw (by decide) 1 kf_X10_54 (EC_32 X _ _) rfl inA10 tyX10_ok nmX10 (by decide) rfl rfl (Nat.le_of_ble_eq_true rfl) rfl dX10_seekMinutes_82 (fun H locs hw => ?_)
          rw [← es24] at hw
          refine lv_aload_n hx hb dX10_seekMinutes_85 rfl (lv_at hl 0 rfl) ?_
          refine lv_dup hx hb dX10_seekMinutes_86 rfl ?_
          refine w_get (T := TX10) C hw (by decide) 0 kf_X10_51 (EC_32 X _ _) rfl inA10 (by decide) rfl dX10_seekMinutes_87 ?_
          refine lv_iconst (v := 1) hx hb dX10_seekMinutes_90 (by decide) ?_
          refine lv_iadd hx hb dX10_seekMinutes_91 ?_
          obtain ⟨st25, es26⟩ : ∃ z : St, z = sI st23 32 0 ((gI st23 32 0) + (1 : Int32)) := ⟨_, rfl⟩
          replace hf := bnd_nm hf es26
          refine w_puti (T := TX10) C hw (by decide) 0 kf_X10_51 (EC_32 X _ _) rfl inA10 tyX10_ok nmX10 (by decide) rfl rfl (Nat.le_of_ble_eq_true rfl) rfl dX10_seekMinutes_92 (fun H locs hw => ?_)
          rw [← es26] at hw
          obtain ⟨x27, e28⟩ : ∃ z : Int32, z = v5 + (1 : Int32) := ⟨_, rfl⟩
          replace hf := bnd_nm hf e28
          refine lv_iinc (v := x27) (lv' := [(5, .int x27), (0, .ref (xq X 32)), (1, .ref (xq X (53 + 2 * j1))), (2, .int v2), (3, .int v3), (4, .int v4)]) hx hb dX10_seekMinutes_95 hl (k := 5) rfl (by rw [e28]; rfl) (by decide) rfl (fun ls hl => ?_)
          refine lv_goto (tgt := 33) hx hb dX10_seekMinutes_98 (by decide) ?_
          exact ih st25 j1 v2 v3 v4 x27 _ _ _ hj1 hw (lv_sub hl [1, 2, 3, 4, 5, 0] rfl) hf
def fX10_seekMinutes (n : Nat) (st : St) (i1 : Nat) (a2 : Int32) (a3 : Int32) (a4 : Int32) : Option (St) := bnd (sI st 32 0 (0 : Int32)) (fun st1 => bnd (sI st1 32 1 (-2 : Int32)) (fun st3 => if gI st3 (53 + 2 * i1) 3 ≤ gI st3 1 2 then ((fX10_weighFalls n st3).bind (fun r6 => fX10_seekMinutes_33 n n r6 i1 a2 a3 a4 (0 : Int32))) else (some st3)))
set_option maxHeartbeats 4000000 in
theorem zX10_seekMinutes (l : Launch) (X : WX) (n : Nat) (st : St) (i1 : Nat) (a2 : Int32) (a3 : Int32) (a4 : Int32) (hi1 : i1 < 6) (R : St) (hf : fX10_seekMinutes n st i1 a2 a3 a4 = some R) : CtV l yX10_seekMinutes cX10_seekMinutes 6 ({ frames := 5, cells := 0, slots := 0, locals := 125 }) EC 65 X [.ref (xq X 32), .ref (xq X (53 + 2 * i1)), .int a2, .int a3, .int a4] st R := by
  refine ct_in (own := RX10) (by decide +kernel) rfl (Nat.le_of_ble_eq_true rfl) (fun p e s m below meth c C hr hw ls hl => ?_)
  obtain ⟨hx, hb, hml, hown, hts⟩ := id C.1
  have hl : lv_has ls 6 [(0, .ref (xq X 32)), (1, .ref (xq X (53 + 2 * i1))), (2, .int a2), (3, .int a3), (4, .int a4)] := hl
  unfold fX10_seekMinutes at hf
  refine lv_aload_n hx hb dX10_seekMinutes_0 rfl (lv_at hl 0 rfl) ?_
  refine lv_iconst (v := 0) hx hb dX10_seekMinutes_1 (by decide) ?_
  obtain ⟨st1, es2⟩ : ∃ z : St, z = sI st 32 0 (0 : Int32) := ⟨_, rfl⟩
  replace hf := bnd_nm hf es2
  refine w_puti (T := TX10) C hw (by decide) 0 kf_X10_51 (EC_32 X _ _) rfl inA10 tyX10_ok nmX10 (by decide) rfl rfl (Nat.le_of_ble_eq_true rfl) rfl dX10_seekMinutes_2 (fun H locs hw => ?_)
  rw [← es2] at hw
  refine lv_aload_n hx hb dX10_seekMinutes_5 rfl (lv_at hl 0 rfl) ?_
  refine lv_bipush (v := -2) hx hb dX10_seekMinutes_6 (by decide) ?_
  obtain ⟨st3, es4⟩ : ∃ z : St, z = sI st1 32 1 (-2 : Int32) := ⟨_, rfl⟩
  replace hf := bnd_nm hf es4
  refine w_puti (T := TX10) C hw (by decide) 1 kf_X10_54 (EC_32 X _ _) rfl inA10 tyX10_ok nmX10 (by decide) rfl rfl (Nat.le_of_ble_eq_true rfl) rfl dX10_seekMinutes_8 (fun H locs hw => ?_)
  rw [← es4] at hw
  refine lv_aload_n hx hb dX10_seekMinutes_11 rfl (lv_at hl 1 rfl) ?_
  refine w_get (T := TX7) C hw (by have := hi1; omega) 3 kf_X10_34 (EC_sh X hi1 _ _) rfl inA7 (by decide) rfl dX10_seekMinutes_12 ?_
  refine lv_aload_n hx hb dX10_seekMinutes_15 rfl (lv_at hl 0 rfl) ?_
  refine w_get (T := TX10) C hw (by decide) 2 kf_X10_23 (EC_32 X _ _) rfl inA10 (by decide) rfl dX10_seekMinutes_16 ?_
  refine w_get (T := TX3) C hw (by decide) 2 kf_X10_40 (EC_1 X _ _) rfl inA3 (by decide) rfl dX10_seekMinutes_19 ?_
  refine lv_icmp_le (tgt := 26) hx hb dX10_seekMinutes_22 (by decide) (fun c5 => ?_) (fun c5 => ?_)
  · replace hf := ite_t hf c5
    refine lv_aload_n hx hb dX10_seekMinutes_26 rfl (lv_at hl 0 rfl) ?_
    obtain ⟨r6, k7, hf⟩ := bd_some hf
    refine w_goV hw (w_runV (rest := []) C hw (zX10_weighFalls _ _ n st3 r6 k7) (by decide) (EC_32 X _ _) rfl km_X10_31 ki_yX10_weighFalls kv_X10_weighFalls kz_X10 kc_X10_weighFalls rfl ok_yX10_weighFalls ⟨Nat.le_of_ble_eq_true rfl, Nat.le_of_ble_eq_true rfl⟩ rfl rfl rfl rfl hl.1 (Nat.le_of_ble_eq_true rfl) dX10_seekMinutes_27 ⟨Nat.zero_le _, Nat.zero_le _⟩) (fun H locs hw => ?_)
    refine lv_iconst (v := 0) hx hb dX10_seekMinutes_30 (by decide) ?_
    refine lv_istore (lv' := [(5, .int (0 : Int32)), (0, .ref (xq X 32)), (1, .ref (xq X (53 + 2 * i1))), (2, .int a2), (3, .int a3), (4, .int a4)]) hx hb dX10_seekMinutes_31 hl (by decide) rfl (fun ls hl => ?_)
    exact tX10_seekMinutes_33 C hr n r6 i1 a2 a3 a4 (0 : Int32) _ _ _ hi1 hw (lv_sub hl [1, 2, 3, 4, 5, 0] rfl) hf
  · replace hf := ite_f hf c5
    exact w_vret C hw hr (Option.some.inj hf) dX10_seekMinutes_25
