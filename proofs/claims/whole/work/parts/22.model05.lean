theorem dX12_criedBy_0 : decode cX12_criedBy 0 = .ok (.iconst 0, 1) := by decide +kernel
theorem dX12_criedBy_1 : decode cX12_criedBy 1 = .ok (.istore_n 3, 1) := by decide +kernel
theorem dX12_criedBy_2 : decode cX12_criedBy 2 = .ok (.iconst 0, 1) := by decide +kernel
theorem dX12_criedBy_3 : decode cX12_criedBy 3 = .ok (.istore 4, 2) := by decide +kernel
theorem dX12_criedBy_5 : decode cX12_criedBy 5 = .ok (.iload 4, 2) := by decide +kernel
theorem dX12_criedBy_7 : decode cX12_criedBy 7 = .ok (.aload_n 0, 1) := by decide +kernel
theorem dX12_criedBy_8 : decode cX12_criedBy 8 = .ok (.getfield 130, 3) := by decide +kernel
theorem dX12_criedBy_11 : decode cX12_criedBy 11 = .ok (.iload_n 1, 1) := by decide +kernel
theorem dX12_criedBy_12 : decode cX12_criedBy 12 = .ok (.iaload, 1) := by decide +kernel
theorem dX12_criedBy_13 : decode cX12_criedBy 13 = .ok (.if_icmp .ge 73, 3) := by decide +kernel
theorem dX12_criedBy_16 : decode cX12_criedBy 16 = .ok (.aload_n 0, 1) := by decide +kernel
theorem dX12_criedBy_17 : decode cX12_criedBy 17 = .ok (.iload_n 1, 1) := by decide +kernel
theorem dX12_criedBy_18 : decode cX12_criedBy 18 = .ok (.iload 4, 2) := by decide +kernel
theorem dX12_criedBy_20 : decode cX12_criedBy 20 = .ok (.iconst 2, 1) := by decide +kernel
theorem dX12_criedBy_21 : decode cX12_criedBy 21 = .ok (.iadd, 1) := by decide +kernel
theorem dX12_criedBy_22 : decode cX12_criedBy 22 = .ok (.invokevirtual 367, 3) := by decide +kernel
theorem dX12_criedBy_25 : decode cX12_criedBy 25 = .ok (.aload_n 0, 1) := by decide +kernel
theorem dX12_criedBy_26 : decode cX12_criedBy 26 = .ok (.iload_n 1, 1) := by decide +kernel
theorem dX12_criedBy_27 : decode cX12_criedBy 27 = .ok (.iload 4, 2) := by decide +kernel
theorem dX12_criedBy_29 : decode cX12_criedBy 29 = .ok (.invokevirtual 367, 3) := by decide +kernel
theorem dX12_criedBy_32 : decode cX12_criedBy 32 = .ok (.iload_n 2, 1) := by decide +kernel
theorem dX12_criedBy_33 : decode cX12_criedBy 33 = .ok (.bipush 20, 2) := by decide +kernel
theorem dX12_criedBy_35 : decode cX12_criedBy 35 = .ok (.irem, 1) := by decide +kernel
theorem dX12_criedBy_36 : decode cX12_criedBy 36 = .ok (.invokestatic 291, 3) := by decide +kernel
theorem dX12_criedBy_39 : decode cX12_criedBy 39 = .ok (.isub, 1) := by decide +kernel
theorem dX12_criedBy_40 : decode cX12_criedBy 40 = .ok (.aload_n 0, 1) := by decide +kernel
theorem dX12_criedBy_41 : decode cX12_criedBy 41 = .ok (.iload_n 1, 1) := by decide +kernel
theorem dX12_criedBy_42 : decode cX12_criedBy 42 = .ok (.iload 4, 2) := by decide +kernel
theorem dX12_criedBy_44 : decode cX12_criedBy 44 = .ok (.iconst 1, 1) := by decide +kernel
theorem dX12_criedBy_45 : decode cX12_criedBy 45 = .ok (.iadd, 1) := by decide +kernel
theorem dX12_criedBy_46 : decode cX12_criedBy 46 = .ok (.invokevirtual 367, 3) := by decide +kernel
theorem dX12_criedBy_49 : decode cX12_criedBy 49 = .ok (.iload_n 2, 1) := by decide +kernel
theorem dX12_criedBy_50 : decode cX12_criedBy 50 = .ok (.bipush 20, 2) := by decide +kernel
theorem dX12_criedBy_52 : decode cX12_criedBy 52 = .ok (.idiv, 1) := by decide +kernel
theorem dX12_criedBy_53 : decode cX12_criedBy 53 = .ok (.invokestatic 291, 3) := by decide +kernel
theorem dX12_criedBy_56 : decode cX12_criedBy 56 = .ok (.isub, 1) := by decide +kernel
theorem dX12_criedBy_57 : decode cX12_criedBy 57 = .ok (.istore 5, 2) := by decide +kernel
theorem dX12_criedBy_59 : decode cX12_criedBy 59 = .ok (.iload 5, 2) := by decide +kernel
theorem dX12_criedBy_61 : decode cX12_criedBy 61 = .ok (.ifCond .lt 14, 3) := by decide +kernel
theorem dX12_criedBy_64 : decode cX12_criedBy 64 = .ok (.iload 4, 2) := by decide +kernel
theorem dX12_criedBy_66 : decode cX12_criedBy 66 = .ok (.ifCond .le 11, 3) := by decide +kernel
theorem dX12_criedBy_69 : decode cX12_criedBy 69 = .ok (.iload 5, 2) := by decide +kernel
theorem dX12_criedBy_71 : decode cX12_criedBy 71 = .ok (.iload_n 3, 1) := by decide +kernel
theorem dX12_criedBy_72 : decode cX12_criedBy 72 = .ok (.if_icmp .eq 5, 3) := by decide +kernel
theorem dX12_criedBy_75 : decode cX12_criedBy 75 = .ok (.iconst (-1), 1) := by decide +kernel
theorem dX12_criedBy_76 : decode cX12_criedBy 76 = .ok (.ireturn, 1) := by decide +kernel
theorem dX12_criedBy_77 : decode cX12_criedBy 77 = .ok (.iload 5, 2) := by decide +kernel
theorem dX12_criedBy_79 : decode cX12_criedBy 79 = .ok (.istore_n 3, 1) := by decide +kernel
theorem dX12_criedBy_80 : decode cX12_criedBy 80 = .ok (.iinc 4 3, 3) := by decide +kernel
theorem dX12_criedBy_83 : decode cX12_criedBy 83 = .ok (.goto (-78), 3) := by decide +kernel
theorem dX12_criedBy_86 : decode cX12_criedBy 86 = .ok (.iload_n 3, 1) := by decide +kernel
theorem dX12_criedBy_87 : decode cX12_criedBy 87 = .ok (.ireturn, 1) := by decide +kernel
theorem ok_yX12_criedBy : yOk yX12_criedBy 2 := ⟨by decide +kernel, by decide +kernel, by decide +kernel⟩
def fX12_criedBy_5 (n : Nat) (st : St) : Nat → Int32 → Int32 → Int32 → Int32 → Option (Int32)
  | 0, _, _, _, _ => none
  | k + 1, v1, v2, v3, v4 => gd (inB v1 6) (if gI st 40 v1.toNatClampNeg ≤ v4 then (some v3) else ((fX12_told st v1 (v4 + (2 : Int32))).bind (fun r3 => (fX12_told st v1 v4).bind (fun r5 => (fX12_told st v1 (v4 + (1 : Int32))).bind (fun r7 => bnd ((r3 - (fX12_apart r5 (rmI v2 (20 : Int32)))) - (fX12_apart r7 (v2 / (20 : Int32)))) (fun x9 => if x9 < 0 then (some (-1 : Int32)) else (if v4 ≤ 0 then (bnd (v4 + (3 : Int32)) (fun x13 => fX12_criedBy_5 n st k v1 v2 x9 x13)) else (if x9 = v3 then (bnd (v4 + (3 : Int32)) (fun x16 => fX12_criedBy_5 n st k v1 v2 x9 x16)) else (some (-1 : Int32))))))))))
set_option maxHeartbeats 4000000 in
theorem tX12_criedBy_5 {p : Program} {l : Launch} {e : Env} {s : State} {m : MethodId} {args : Array Value} {below : List Frame} {meth : Method} {c : Code} {X : WX} (C : Amb 43 X p s m args meth c cX12_criedBy 6 RX12) (hr : meth.sig.returnType = some .int) {R : Int32} {n : Nat} {st : St} : ∀ (k : Nat) (v1 : Int32) (v2 : Int32) (v3 : Int32) (v4 : Int32) (H : Heap) (locs : List Loc) (ls : Array Slot), Wd EM 43 X s.heap st H locs → lv_has ls 6 [(0, .ref (xq X 0)), (1, .int v1), (2, .int v2), (3, .int v3), (4, .int v4)] → fX12_criedBy_5 n st k v1 v2 v3 v4 = some R → W p l e { frames := 1, cells := 0, slots := 0, locals := 22 } s m args below meth c H locs 0 0 (QI EM 43 X R st below args s) (F0 m 5 ls []) := by
  obtain ⟨hx, hb, hml, hown, hts⟩ := id C.1
  intro k
  induction k with
  | zero => intro v1 v2 v3 v4 H locs ls  hw hl hf; exact absurd (show none = some R from hf) (fun z => by cases z)
  | succ k ih =>
    intro v1 v2 v3 v4 H locs ls  hw hl hf
    rw [fX12_criedBy_5] at hf
    refine lv_iload hx hb dX12_criedBy_5 (lv_at hl 4 rfl) ?_
    refine lv_aload_n hx hb dX12_criedBy_7 rfl (lv_at hl 0 rfl) ?_
    refine w_get (T := TX12) C hw (by decide) 55 kf_X12_130 (EM_0 X _ _) rfl inA12 (by decide) rfl dX12_criedBy_8 ?_
    refine lv_iload_n hx hb dX12_criedBy_11 rfl (lv_at hl 1 rfl) ?_
    obtain ⟨h1, hf⟩ := gd_some hf
    refine w_iald C hw (by decide) (EM_40 X _ _) h1 rfl dX12_criedBy_12 ?_
    refine lv_icmp_ge (tgt := 86) hx hb dX12_criedBy_13 (by decide) (fun c2 => ?_) (fun c2 => ?_)
    · replace hf := ite_t hf c2
      refine lv_iload_n hx hb dX12_criedBy_86 rfl (lv_at hl 3 rfl) ?_
      exact w_iret C hw hr (Option.some.inj hf) rfl dX12_criedBy_87
    · replace hf := ite_f hf c2
      refine lv_aload_n hx hb dX12_criedBy_16 rfl (lv_at hl 0 rfl) ?_
      refine lv_iload_n hx hb dX12_criedBy_17 rfl (lv_at hl 1 rfl) ?_
      refine lv_iload hx hb dX12_criedBy_18 (lv_at hl 4 rfl) ?_
      refine lv_iconst (v := 2) hx hb dX12_criedBy_20 (by decide) ?_
      refine lv_iadd hx hb dX12_criedBy_21 ?_
      obtain ⟨r3, k4, hf⟩ := bd_some hf
      refine w_goI hw (w_runV (rest := []) C hw (zX12_told _ _ st v1 (v4 + (2 : Int32)) r3 k4) (by decide) (EM_0 X _ _) rfl km_X12_367 ki_yX12_told kv_X12_told kz_X12 kc_X12_told rfl ok_yX12_told ⟨Nat.le_of_ble_eq_true rfl, Nat.le_of_ble_eq_true rfl⟩ rfl rfl rfl rfl hl.1 (Nat.le_of_ble_eq_true rfl) dX12_criedBy_22 ⟨Nat.zero_le _, Nat.zero_le _⟩) (fun H locs hw => ?_)
      refine lv_aload_n hx hb dX12_criedBy_25 rfl (lv_at hl 0 rfl) ?_
      refine lv_iload_n hx hb dX12_criedBy_26 rfl (lv_at hl 1 rfl) ?_
      refine lv_iload hx hb dX12_criedBy_27 (lv_at hl 4 rfl) ?_
      obtain ⟨r5, k6, hf⟩ := bd_some hf
      refine w_goI hw (w_runV (rest := [.int r3]) C hw (zX12_told _ _ st v1 v4 r5 k6) (by decide) (EM_0 X _ _) rfl km_X12_367 ki_yX12_told kv_X12_told kz_X12 kc_X12_told rfl ok_yX12_told ⟨Nat.le_of_ble_eq_true rfl, Nat.le_of_ble_eq_true rfl⟩ rfl rfl rfl rfl hl.1 (Nat.le_of_ble_eq_true rfl) dX12_criedBy_29 ⟨Nat.zero_le _, Nat.zero_le _⟩) (fun H locs hw => ?_)
      refine lv_iload_n hx hb dX12_criedBy_32 rfl (lv_at hl 2 rfl) ?_
      refine lv_bipush (v := 20) hx hb dX12_criedBy_33 (by decide) ?_
      refine w_irem C (by decide) dX12_criedBy_35 ?_
      refine w_goI hw (w_runS (rest := [.int r3]) C hw (zX12_apart _ _ st r5 (rmI v2 (20 : Int32))) km_X12_291 kt_yX12_apart kz_X12 kc_X12_apart ok_yX12_apart ⟨Nat.le_of_ble_eq_true rfl, Nat.le_of_ble_eq_true rfl⟩ rfl rfl rfl rfl hl.1 (Nat.le_of_ble_eq_true rfl) dX12_criedBy_36 ⟨Nat.zero_le _, Nat.zero_le _⟩) (fun H locs hw => ?_)
      refine lv_isub hx hb dX12_criedBy_39 ?_
      refine lv_aload_n hx hb dX12_criedBy_40 rfl (lv_at hl 0 rfl) ?_
      refine lv_iload_n hx hb dX12_criedBy_41 rfl (lv_at hl 1 rfl) ?_
      refine lv_iload hx hb dX12_criedBy_42 (lv_at hl 4 rfl) ?_
      refine lv_iconst (v := 1) hx hb dX12_criedBy_44 (by decide) ?_
      refine lv_iadd hx hb dX12_criedBy_45 ?_
      obtain ⟨r7, k8, hf⟩ := bd_some hf
      refine w_goI hw (w_runV (rest := [.int (r3 - (fX12_apart r5 (rmI v2 (20 : Int32))))]) C hw (zX12_told _ _ st v1 (v4 + (1 : Int32)) r7 k8) (by decide) (EM_0 X _ _) rfl km_X12_367 ki_yX12_told kv_X12_told kz_X12 kc_X12_told rfl ok_yX12_told ⟨Nat.le_of_ble_eq_true rfl, Nat.le_of_ble_eq_true rfl⟩ rfl rfl rfl rfl hl.1 (Nat.le_of_ble_eq_true rfl) dX12_criedBy_46 ⟨Nat.zero_le _, Nat.zero_le _⟩) (fun H locs hw => ?_)
      refine lv_iload_n hx hb dX12_criedBy_49 rfl (lv_at hl 2 rfl) ?_
      refine lv_bipush (v := 20) hx hb dX12_criedBy_50 (by decide) ?_
      refine lv_idiv hx hb dX12_criedBy_52 (by decide) ?_
      refine w_goI hw (w_runS (rest := [.int (r3 - (fX12_apart r5 (rmI v2 (20 : Int32))))]) C hw (zX12_apart _ _ st r7 (v2 / (20 : Int32))) km_X12_291 kt_yX12_apart kz_X12 kc_X12_apart ok_yX12_apart ⟨Nat.le_of_ble_eq_true rfl, Nat.le_of_ble_eq_true rfl⟩ rfl rfl rfl rfl hl.1 (Nat.le_of_ble_eq_true rfl) dX12_criedBy_53 ⟨Nat.zero_le _, Nat.zero_le _⟩) (fun H locs hw => ?_)
      refine lv_isub hx hb dX12_criedBy_56 ?_
      refine lv_topi (fun x9 e10 => ?_)
      replace hf := bnd_nm hf e10
      refine lv_istore (lv' := [(5, .int x9), (0, .ref (xq X 0)), (1, .int v1), (2, .int v2), (3, .int v3), (4, .int v4)]) hx hb dX12_criedBy_57 hl (by decide) rfl (fun ls hl => ?_)
      refine lv_iload hx hb dX12_criedBy_59 (lv_at hl 0 rfl) ?_
      refine lv_if_lt (tgt := 75) hx hb dX12_criedBy_61 (by decide) (fun c11 => ?_) (fun c11 => ?_)
      · replace hf := ite_t hf c11
        refine lv_iconst (v := -1) hx hb dX12_criedBy_75 (by decide) ?_
        exact w_iret C hw hr (Option.some.inj hf) rfl dX12_criedBy_76
      · replace hf := ite_f hf c11
        refine lv_iload hx hb dX12_criedBy_64 (lv_at hl 5 rfl) ?_
        refine lv_if_le (tgt := 77) hx hb dX12_criedBy_66 (by decide) (fun c12 => ?_) (fun c12 => ?_)
        · replace hf := ite_t hf c12
          refine lv_iload hx hb dX12_criedBy_77 (lv_at hl 0 rfl) ?_
          refine lv_istore_n (lv' := [(3, .int x9), (5, .int x9), (0, .ref (xq X 0)), (1, .int v1), (2, .int v2), (4, .int v4)]) hx hb dX12_criedBy_79 rfl hl (by decide) rfl (fun ls hl => ?_)
          obtain ⟨x13, e14⟩ : ∃ z : Int32, z = v4 + (3 : Int32) := ⟨_, rfl⟩
          replace hf := bnd_nm hf e14
          refine lv_iinc (v := x13) (lv' := [(4, .int x13), (3, .int x9), (5, .int x9), (0, .ref (xq X 0)), (1, .int v1), (2, .int v2)]) hx hb dX12_criedBy_80 hl (k := 5) rfl (by rw [e14]; rfl) (by decide) rfl (fun ls hl => ?_)
          refine lv_goto (tgt := 5) hx hb dX12_criedBy_83 (by decide) ?_
          exact ih v1 v2 x9 x13 _ _ _ hw (lv_sub hl [3, 4, 5, 1, 0] rfl) hf
        · replace hf := ite_f hf c12
          refine lv_iload hx hb dX12_criedBy_69 (lv_at hl 0 rfl) ?_
          refine lv_iload_n hx hb dX12_criedBy_71 rfl (lv_at hl 4 rfl) ?_
          refine lv_icmp_eq (tgt := 77) hx hb dX12_criedBy_72 (by decide) (fun c15 => ?_) (fun c15 => ?_)
          · replace hf := ite_t hf c15
            refine lv_iload hx hb dX12_criedBy_77 (lv_at hl 0 rfl) ?_
            refine lv_istore_n (lv' := [(3, .int x9), (5, .int x9), (0, .ref (xq X 0)), (1, .int v1), (2, .int v2), (4, .int v4)]) hx hb dX12_criedBy_79 rfl hl (by decide) rfl (fun ls hl => ?_)
            obtain ⟨x16, e17⟩ : ∃ z : Int32, z = v4 + (3 : Int32) := ⟨_, rfl⟩
            replace hf := bnd_nm hf e17
            refine lv_iinc (v := x16) (lv' := [(4, .int x16), (3, .int x9), (5, .int x9), (0, .ref (xq X 0)), (1, .int v1), (2, .int v2)]) hx hb dX12_criedBy_80 hl (k := 5) rfl (by rw [e17]; rfl) (by decide) rfl (fun ls hl => ?_)
            refine lv_goto (tgt := 5) hx hb dX12_criedBy_83 (by decide) ?_
            exact ih v1 v2 x9 x16 _ _ _ hw (lv_sub hl [3, 4, 5, 1, 0] rfl) hf
          · replace hf := ite_f hf c15
            refine lv_iconst (v := -1) hx hb dX12_criedBy_75 (by decide) ?_
            exact w_iret C hw hr (Option.some.inj hf) rfl dX12_criedBy_76
def fX12_criedBy (n : Nat) (st : St) (a1 : Int32) (a2 : Int32) : Option (Int32) := fX12_criedBy_5 n st n a1 a2 (0 : Int32) (0 : Int32)
set_option maxHeartbeats 4000000 in
theorem zX12_criedBy (l : Launch) (X : WX) (n : Nat) (st : St) (a1 : Int32) (a2 : Int32) (R : Int32) (hf : fX12_criedBy n st a1 a2 = some R) : CtI l yX12_criedBy cX12_criedBy 6 .int ({ frames := 1, cells := 0, slots := 0, locals := 22 }) EM 43 X [.ref (xq X 0), .int a1, .int a2] st R st := by
  refine ct_in (own := RX12) (by decide +kernel) rfl (Nat.le_of_ble_eq_true rfl) (fun p e s m below meth c C hr hw ls hl => ?_)
  obtain ⟨hx, hb, hml, hown, hts⟩ := id C.1
  have hl : lv_has ls 6 [(0, .ref (xq X 0)), (1, .int a1), (2, .int a2)] := hl
  unfold fX12_criedBy at hf
  refine lv_iconst (v := 0) hx hb dX12_criedBy_0 (by decide) ?_
  refine lv_istore_n (lv' := [(3, .int (0 : Int32)), (0, .ref (xq X 0)), (1, .int a1), (2, .int a2)]) hx hb dX12_criedBy_1 rfl hl (by decide) rfl (fun ls hl => ?_)
  refine lv_iconst (v := 0) hx hb dX12_criedBy_2 (by decide) ?_
  refine lv_istore (lv' := [(4, .int (0 : Int32)), (3, .int (0 : Int32)), (0, .ref (xq X 0)), (1, .int a1), (2, .int a2)]) hx hb dX12_criedBy_3 hl (by decide) rfl (fun ls hl => ?_)
  exact tX12_criedBy_5 C hr n a1 a2 (0 : Int32) (0 : Int32) _ _ _ hw (lv_sub hl [2, 3, 4, 1, 0] rfl) hf
theorem dX12_ears_0 : decode cX12_ears 0 = .ok (.iload_n 1, 1) := by decide +kernel
theorem dX12_ears_1 : decode cX12_ears 1 = .ok (.invokestatic 168, 3) := by decide +kernel
theorem dX12_ears_4 : decode cX12_ears 4 = .ok (.ifCond .eq 12, 3) := by decide +kernel
theorem dX12_ears_7 : decode cX12_ears 7 = .ok (.iload_n 2, 1) := by decide +kernel
theorem dX12_ears_8 : decode cX12_ears 8 = .ok (.iconst 0, 1) := by decide +kernel
theorem dX12_ears_9 : decode cX12_ears 9 = .ok (.iconst 2, 1) := by decide +kernel
theorem dX12_ears_10 : decode cX12_ears 10 = .ok (.invokestatic 147, 3) := by decide +kernel
theorem dX12_ears_13 : decode cX12_ears 13 = .ok (.ifCond .ne 5, 3) := by decide +kernel
theorem dX12_ears_16 : decode cX12_ears 16 = .ok (.iconst (-1), 1) := by decide +kernel
theorem dX12_ears_17 : decode cX12_ears 17 = .ok (.ireturn, 1) := by decide +kernel
theorem dX12_ears_18 : decode cX12_ears 18 = .ok (.aload_n 0, 1) := by decide +kernel
theorem dX12_ears_19 : decode cX12_ears 19 = .ok (.iload_n 1, 1) := by decide +kernel
theorem dX12_ears_20 : decode cX12_ears 20 = .ok (.iconst 1, 1) := by decide +kernel
theorem dX12_ears_21 : decode cX12_ears 21 = .ok (.invokevirtual 377, 3) := by decide +kernel
theorem dX12_ears_24 : decode cX12_ears 24 = .ok (.istore_n 3, 1) := by decide +kernel
theorem dX12_ears_25 : decode cX12_ears 25 = .ok (.iload_n 3, 1) := by decide +kernel
theorem dX12_ears_26 : decode cX12_ears 26 = .ok (.ifCond .ge 5, 3) := by decide +kernel
theorem dX12_ears_29 : decode cX12_ears 29 = .ok (.iload_n 3, 1) := by decide +kernel
theorem dX12_ears_30 : decode cX12_ears 30 = .ok (.ireturn, 1) := by decide +kernel
theorem dX12_ears_31 : decode cX12_ears 31 = .ok (.iconst 0, 1) := by decide +kernel
theorem dX12_ears_32 : decode cX12_ears 32 = .ok (.istore 4, 2) := by decide +kernel
theorem dX12_ears_34 : decode cX12_ears 34 = .ok (.bipush (-2), 2) := by decide +kernel
theorem dX12_ears_36 : decode cX12_ears 36 = .ok (.istore 5, 2) := by decide +kernel
theorem dX12_ears_38 : decode cX12_ears 38 = .ok (.iconst 0, 1) := by decide +kernel
theorem dX12_ears_39 : decode cX12_ears 39 = .ok (.istore 6, 2) := by decide +kernel
theorem dX12_ears_41 : decode cX12_ears 41 = .ok (.iload 6, 2) := by decide +kernel
theorem dX12_ears_43 : decode cX12_ears 43 = .ok (.sipush 400, 3) := by decide +kernel
theorem dX12_ears_46 : decode cX12_ears 46 = .ok (.if_icmp .ge 42, 3) := by decide +kernel
theorem dX12_ears_49 : decode cX12_ears 49 = .ok (.aload_n 0, 1) := by decide +kernel
theorem dX12_ears_50 : decode cX12_ears 50 = .ok (.iload_n 1, 1) := by decide +kernel
theorem dX12_ears_51 : decode cX12_ears 51 = .ok (.invokevirtual 386, 3) := by decide +kernel
theorem dX12_ears_54 : decode cX12_ears 54 = .ok (.ifCond .eq 34, 3) := by decide +kernel
theorem dX12_ears_57 : decode cX12_ears 57 = .ok (.aload_n 0, 1) := by decide +kernel
theorem dX12_ears_58 : decode cX12_ears 58 = .ok (.iload_n 1, 1) := by decide +kernel
theorem dX12_ears_59 : decode cX12_ears 59 = .ok (.iload 6, 2) := by decide +kernel
theorem dX12_ears_61 : decode cX12_ears 61 = .ok (.invokevirtual 389, 3) := by decide +kernel
theorem dX12_ears_64 : decode cX12_ears 64 = .ok (.ifCond .ge 6, 3) := by decide +kernel
theorem dX12_ears_67 : decode cX12_ears 67 = .ok (.goto 15, 3) := by decide +kernel
theorem dX12_ears_70 : decode cX12_ears 70 = .ok (.iload 4, 2) := by decide +kernel
theorem dX12_ears_72 : decode cX12_ears 72 = .ok (.ifCond .ne 7, 3) := by decide +kernel
theorem dX12_ears_75 : decode cX12_ears 75 = .ok (.iload 6, 2) := by decide +kernel
theorem dX12_ears_77 : decode cX12_ears 77 = .ok (.istore 5, 2) := by decide +kernel
theorem dX12_ears_79 : decode cX12_ears 79 = .ok (.iinc 4 1, 3) := by decide +kernel
theorem dX12_ears_82 : decode cX12_ears 82 = .ok (.iinc 6 1, 3) := by decide +kernel
theorem dX12_ears_85 : decode cX12_ears 85 = .ok (.goto (-44), 3) := by decide +kernel
theorem dX12_ears_88 : decode cX12_ears 88 = .ok (.iload_n 2, 1) := by decide +kernel
theorem dX12_ears_89 : decode cX12_ears 89 = .ok (.ifCond .ne 6, 3) := by decide +kernel
theorem dX12_ears_92 : decode cX12_ears 92 = .ok (.iload 4, 2) := by decide +kernel
theorem dX12_ears_94 : decode cX12_ears 94 = .ok (.ireturn, 1) := by decide +kernel
theorem dX12_ears_95 : decode cX12_ears 95 = .ok (.iload 5, 2) := by decide +kernel
theorem dX12_ears_97 : decode cX12_ears 97 = .ok (.ifCond .lt 8, 3) := by decide +kernel
theorem dX12_ears_100 : decode cX12_ears 100 = .ok (.iload_n 2, 1) := by decide +kernel
theorem dX12_ears_101 : decode cX12_ears 101 = .ok (.iconst 1, 1) := by decide +kernel
theorem dX12_ears_102 : decode cX12_ears 102 = .ok (.if_icmp .ne 8, 3) := by decide +kernel
theorem dX12_ears_105 : decode cX12_ears 105 = .ok (.iload 5, 2) := by decide +kernel
theorem dX12_ears_107 : decode cX12_ears 107 = .ok (.goto 10, 3) := by decide +kernel
theorem dX12_ears_110 : decode cX12_ears 110 = .ok (.aload_n 0, 1) := by decide +kernel
theorem dX12_ears_111 : decode cX12_ears 111 = .ok (.iload_n 1, 1) := by decide +kernel
theorem dX12_ears_112 : decode cX12_ears 112 = .ok (.iload 5, 2) := by decide +kernel
theorem dX12_ears_114 : decode cX12_ears 114 = .ok (.invokevirtual 389, 3) := by decide +kernel
theorem dX12_ears_117 : decode cX12_ears 117 = .ok (.ireturn, 1) := by decide +kernel
theorem ok_yX12_ears : yOk yX12_ears 2 := ⟨by decide +kernel, by decide +kernel, by decide +kernel⟩
def fX12_ears_88 (n : Nat) (st : St) (v1 : Int32) (v2 : Int32) (v4 : Int32) (v5 : Int32) : Option (Int32) := if v2 = 0 then (some v4) else (if v5 < 0 then (some v5) else (if v2 = (1 : Int32) then (some v5) else ((fX12_criedBy n st v1 v5).bind (fun r27 => some r27))))
set_option maxHeartbeats 4000000 in
theorem tX12_ears_88 {p : Program} {l : Launch} {e : Env} {s : State} {m : MethodId} {args : Array Value} {below : List Frame} {meth : Method} {c : Code} {X : WX} (C : Amb 43 X p s m args meth c cX12_ears 7 RX12) (hr : meth.sig.returnType = some .int) {R : Int32} {n : Nat} {st : St} : ∀ (v1 : Int32) (v2 : Int32) (v4 : Int32) (v5 : Int32) (H : Heap) (locs : List Loc) (ls : Array Slot), Wd EM 43 X s.heap st H locs → lv_has ls 7 [(0, .ref (xq X 0)), (1, .int v1), (2, .int v2), (4, .int v4), (5, .int v5)] → fX12_ears_88 n st v1 v2 v4 v5 = some R → W p l e { frames := 2, cells := 0, slots := 0, locals := 47 } s m args below meth c H locs 0 0 (QI EM 43 X R st below args s) (F0 m 88 ls []) := by
  obtain ⟨hx, hb, hml, hown, hts⟩ := id C.1
  intro v1 v2 v4 v5 H locs ls  hw hl hf
  unfold fX12_ears_88 at hf
  refine lv_iload_n hx hb dX12_ears_88 rfl (lv_at hl 2 rfl) ?_
  refine lv_if_ne (tgt := 95) hx hb dX12_ears_89 (by decide) (fun c24 => ?_) (fun c24 => ?_)
  · replace hf := ite_f hf c24
    refine lv_iload hx hb dX12_ears_95 (lv_at hl 4 rfl) ?_
    refine lv_if_lt (tgt := 105) hx hb dX12_ears_97 (by decide) (fun c25 => ?_) (fun c25 => ?_)
    · replace hf := ite_t hf c25
      refine lv_iload hx hb dX12_ears_105 (lv_at hl 4 rfl) ?_
      refine lv_goto (tgt := 117) hx hb dX12_ears_107 (by decide) ?_
      exact w_iret C hw hr (Option.some.inj hf) rfl dX12_ears_117
    · replace hf := ite_f hf c25
      refine lv_iload_n hx hb dX12_ears_100 rfl (lv_at hl 2 rfl) ?_
      refine lv_iconst (v := 1) hx hb dX12_ears_101 (by decide) ?_
      refine lv_icmp_ne (tgt := 110) hx hb dX12_ears_102 (by decide) (fun c26 => ?_) (fun c26 => ?_)
      · replace hf := ite_f hf c26
        refine lv_aload_n hx hb dX12_ears_110 rfl (lv_at hl 0 rfl) ?_
        refine lv_iload_n hx hb dX12_ears_111 rfl (lv_at hl 1 rfl) ?_
        refine lv_iload hx hb dX12_ears_112 (lv_at hl 4 rfl) ?_
        obtain ⟨r27, k28, hf⟩ := bd_some hf
        refine w_goI hw (w_runV (rest := []) C hw (zX12_criedBy _ _ n st v1 v5 r27 k28) (by decide) (EM_0 X _ _) rfl km_X12_389 ki_yX12_criedBy kv_X12_criedBy kz_X12 kc_X12_criedBy rfl ok_yX12_criedBy ⟨Nat.le_of_ble_eq_true rfl, Nat.le_of_ble_eq_true rfl⟩ rfl rfl rfl rfl hl.1 (Nat.le_of_ble_eq_true rfl) dX12_ears_114 ⟨Nat.zero_le _, Nat.zero_le _⟩) (fun H locs hw => ?_)
        exact w_iret C hw hr (Option.some.inj hf) rfl dX12_ears_117
      · replace hf := ite_t hf c26
        refine lv_iload hx hb dX12_ears_105 (lv_at hl 4 rfl) ?_
        refine lv_goto (tgt := 117) hx hb dX12_ears_107 (by decide) ?_
        exact w_iret C hw hr (Option.some.inj hf) rfl dX12_ears_117
  · replace hf := ite_t hf c24
    refine lv_iload hx hb dX12_ears_92 (lv_at hl 3 rfl) ?_
    exact w_iret C hw hr (Option.some.inj hf) rfl dX12_ears_94
def fX12_ears_41 (n : Nat) (st : St) : Nat → Int32 → Int32 → Int32 → Int32 → Int32 → Option (Int32)
  | 0, _, _, _, _, _ => none
  | k + 1, v1, v2, v4, v5, v6 => if (400 : Int32) ≤ v6 then (fX12_ears_88 n st v1 v2 v4 v5) else ((fX12_areHeard n st v1).bind (fun r7 => if bI r7 = 0 then (fX12_ears_88 n st v1 v2 v4 v5) else ((fX12_criedBy n st v1 v6).bind (fun r10 => if 0 ≤ r10 then (if v4 = 0 then (bnd (v4 + (1 : Int32)) (fun x18 => bnd (v6 + (1 : Int32)) (fun x20 => fX12_ears_41 n st k v1 v2 x18 v6 x20))) else (bnd (v4 + (1 : Int32)) (fun x14 => bnd (v6 + (1 : Int32)) (fun x16 => fX12_ears_41 n st k v1 v2 x14 v5 x16)))) else (bnd (v6 + (1 : Int32)) (fun x22 => fX12_ears_41 n st k v1 v2 v4 v5 x22))))))
set_option maxHeartbeats 4000000 in
theorem tX12_ears_41 {p : Program} {l : Launch} {e : Env} {s : State} {m : MethodId} {args : Array Value} {below : List Frame} {meth : Method} {c : Code} {X : WX} (C : Amb 43 X p s m args meth c cX12_ears 7 RX12) (hr : meth.sig.returnType = some .int) {R : Int32} {n : Nat} {st : St} : ∀ (k : Nat) (v1 : Int32) (v2 : Int32) (v4 : Int32) (v5 : Int32) (v6 : Int32) (H : Heap) (locs : List Loc) (ls : Array Slot), Wd EM 43 X s.heap st H locs → lv_has ls 7 [(0, .ref (xq X 0)), (1, .int v1), (2, .int v2), (4, .int v4), (5, .int v5), (6, .int v6)] → fX12_ears_41 n st k v1 v2 v4 v5 v6 = some R → W p l e { frames := 2, cells := 0, slots := 0, locals := 47 } s m args below meth c H locs 0 0 (QI EM 43 X R st below args s) (F0 m 41 ls []) := by
  obtain ⟨hx, hb, hml, hown, hts⟩ := id C.1
  intro k
  induction k with
  | zero => intro v1 v2 v4 v5 v6 H locs ls  hw hl hf; exact absurd (show none = some R from hf) (fun z => by cases z)
  | succ k ih =>
    intro v1 v2 v4 v5 v6 H locs ls  hw hl hf
    rw [fX12_ears_41] at hf
    refine lv_iload hx hb dX12_ears_41 (lv_at hl 5 rfl) ?_
    refine lv_sipush (v := 400) hx hb dX12_ears_43 (by decide) ?_
    refine lv_icmp_ge (tgt := 88) hx hb dX12_ears_46 (by decide) (fun c6 => ?_) (fun c6 => ?_)
    · replace hf := ite_t hf c6
      exact tX12_ears_88 C hr v1 v2 v4 v5 _ _ _ hw (lv_sub hl [0, 1, 2, 3, 4] rfl) hf
    · replace hf := ite_f hf c6
      refine lv_aload_n hx hb dX12_ears_49 rfl (lv_at hl 0 rfl) ?_
      refine lv_iload_n hx hb dX12_ears_50 rfl (lv_at hl 1 rfl) ?_
      obtain ⟨r7, k8, hf⟩ := bd_some hf
      refine w_goI hw (w_runV (rest := []) C hw (zX12_areHeard _ _ n st v1 r7 k8) (by decide) (EM_0 X _ _) rfl km_X12_386 ki_yX12_areHeard kv_X12_areHeard kz_X12 kc_X12_areHeard rfl ok_yX12_areHeard ⟨Nat.le_of_ble_eq_true rfl, Nat.le_of_ble_eq_true rfl⟩ rfl rfl rfl rfl hl.1 (Nat.le_of_ble_eq_true rfl) dX12_ears_51 ⟨Nat.zero_le _, Nat.zero_le _⟩) (fun H locs hw => ?_)
      refine lv_if_eq (tgt := 88) hx hb dX12_ears_54 (by decide) (fun c9 => ?_) (fun c9 => ?_)
      · replace hf := ite_t hf c9
        exact tX12_ears_88 C hr v1 v2 v4 v5 _ _ _ hw (lv_sub hl [0, 1, 2, 3, 4] rfl) hf
      · replace hf := ite_f hf c9
        refine lv_aload_n hx hb dX12_ears_57 rfl (lv_at hl 0 rfl) ?_
        refine lv_iload_n hx hb dX12_ears_58 rfl (lv_at hl 1 rfl) ?_
        refine lv_iload hx hb dX12_ears_59 (lv_at hl 5 rfl) ?_
        obtain ⟨r10, k11, hf⟩ := bd_some hf
        refine w_goI hw (w_runV (rest := []) C hw (zX12_criedBy _ _ n st v1 v6 r10 k11) (by decide) (EM_0 X _ _) rfl km_X12_389 ki_yX12_criedBy kv_X12_criedBy kz_X12 kc_X12_criedBy rfl ok_yX12_criedBy ⟨Nat.le_of_ble_eq_true rfl, Nat.le_of_ble_eq_true rfl⟩ rfl rfl rfl rfl hl.1 (Nat.le_of_ble_eq_true rfl) dX12_ears_61 ⟨Nat.zero_le _, Nat.zero_le _⟩) (fun H locs hw => ?_)
        refine lv_if_ge (tgt := 70) hx hb dX12_ears_64 (by decide) (fun c12 => ?_) (fun c12 => ?_)
        · replace hf := ite_t hf c12
          refine lv_iload hx hb dX12_ears_70 (lv_at hl 3 rfl) ?_
          refine lv_if_ne (tgt := 79) hx hb dX12_ears_72 (by decide) (fun c13 => ?_) (fun c13 => ?_)
          · replace hf := ite_f hf c13
            obtain ⟨x14, e15⟩ : ∃ z : Int32, z = v4 + (1 : Int32) := ⟨_, rfl⟩
            replace hf := bnd_nm hf e15
            refine lv_iinc (v := x14) (lv' := [(4, .int x14), (0, .ref (xq X 0)), (1, .int v1), (2, .int v2), (5, .int v5), (6, .int v6)]) hx hb dX12_ears_79 hl (k := 3) rfl (by rw [e15]; rfl) (by decide) rfl (fun ls hl => ?_)
            obtain ⟨x16, e17⟩ : ∃ z : Int32, z = v6 + (1 : Int32) := ⟨_, rfl⟩
            replace hf := bnd_nm hf e17
            refine lv_iinc (v := x16) (lv' := [(6, .int x16), (4, .int x14), (0, .ref (xq X 0)), (1, .int v1), (2, .int v2), (5, .int v5)]) hx hb dX12_ears_82 hl (k := 5) rfl (by rw [e17]; rfl) (by decide) rfl (fun ls hl => ?_)
            refine lv_goto (tgt := 41) hx hb dX12_ears_85 (by decide) ?_
            exact ih v1 v2 x14 v5 x16 _ _ _ hw (lv_sub hl [2, 3, 4, 1, 5, 0] rfl) hf
          · replace hf := ite_t hf c13
            refine lv_iload hx hb dX12_ears_75 (lv_at hl 5 rfl) ?_
            refine lv_istore (lv' := [(5, .int v6), (0, .ref (xq X 0)), (1, .int v1), (2, .int v2), (4, .int v4), (6, .int v6)]) hx hb dX12_ears_77 hl (by decide) rfl (fun ls hl => ?_)
            obtain ⟨x18, e19⟩ : ∃ z : Int32, z = v4 + (1 : Int32) := ⟨_, rfl⟩
            replace hf := bnd_nm hf e19
            refine lv_iinc (v := x18) (lv' := [(4, .int x18), (5, .int v6), (0, .ref (xq X 0)), (1, .int v1), (2, .int v2), (6, .int v6)]) hx hb dX12_ears_79 hl (k := 4) rfl (by rw [e19]; rfl) (by decide) rfl (fun ls hl => ?_)
            obtain ⟨x20, e21⟩ : ∃ z : Int32, z = v6 + (1 : Int32) := ⟨_, rfl⟩
            replace hf := bnd_nm hf e21
            refine lv_iinc (v := x20) (lv' := [(6, .int x20), (4, .int x18), (5, .int v6), (0, .ref (xq X 0)), (1, .int v1), (2, .int v2)]) hx hb dX12_ears_82 hl (k := 5) rfl (by rw [e21]; rfl) (by decide) rfl (fun ls hl => ?_)
            refine lv_goto (tgt := 41) hx hb dX12_ears_85 (by decide) ?_
            exact ih v1 v2 x18 v6 x20 _ _ _ hw (lv_sub hl [3, 4, 5, 1, 2, 0] rfl) hf
        · replace hf := ite_f hf c12
          refine lv_goto (tgt := 82) hx hb dX12_ears_67 (by decide) ?_
          obtain ⟨x22, e23⟩ : ∃ z : Int32, z = v6 + (1 : Int32) := ⟨_, rfl⟩
          replace hf := bnd_nm hf e23
          refine lv_iinc (v := x22) (lv' := [(6, .int x22), (0, .ref (xq X 0)), (1, .int v1), (2, .int v2), (4, .int v4), (5, .int v5)]) hx hb dX12_ears_82 hl (k := 5) rfl (by rw [e23]; rfl) (by decide) rfl (fun ls hl => ?_)
          refine lv_goto (tgt := 41) hx hb dX12_ears_85 (by decide) ?_
          exact ih v1 v2 v4 v5 x22 _ _ _ hw (lv_sub hl [1, 2, 3, 4, 5, 0] rfl) hf
def fX12_ears (n : Nat) (st : St) (a1 : Int32) (a2 : Int32) : Option (Int32) := if bI (fX12_isShelf a1) = 0 then (some (-1 : Int32)) else (if bI (fX12_in a2 (0 : Int32) (2 : Int32)) = 0 then (some (-1 : Int32)) else ((fX12_rowFault st a1 (1 : Int32)).bind (fun r3 => if 0 ≤ r3 then (fX12_ears_41 n st n a1 a2 (0 : Int32) (-2 : Int32) (0 : Int32)) else (some r3))))
set_option maxHeartbeats 4000000 in
theorem zX12_ears (l : Launch) (X : WX) (n : Nat) (st : St) (a1 : Int32) (a2 : Int32) (R : Int32) (hf : fX12_ears n st a1 a2 = some R) : CtI l yX12_ears cX12_ears 7 .int ({ frames := 2, cells := 0, slots := 0, locals := 47 }) EM 43 X [.ref (xq X 0), .int a1, .int a2] st R st := by
  refine ct_in (own := RX12) (by decide +kernel) rfl (Nat.le_of_ble_eq_true rfl) (fun p e s m below meth c C hr hw ls hl => ?_)
  obtain ⟨hx, hb, hml, hown, hts⟩ := id C.1
  have hl : lv_has ls 7 [(0, .ref (xq X 0)), (1, .int a1), (2, .int a2)] := hl
  unfold fX12_ears at hf
  refine lv_iload_n hx hb dX12_ears_0 rfl (lv_at hl 1 rfl) ?_
  refine w_goI hw (w_runS (rest := []) C hw (zX12_isShelf _ _ st a1) km_X12_168 kt_yX12_isShelf kz_X12 kc_X12_isShelf ok_yX12_isShelf ⟨Nat.le_of_ble_eq_true rfl, Nat.le_of_ble_eq_true rfl⟩ rfl rfl rfl rfl hl.1 (Nat.le_of_ble_eq_true rfl) dX12_ears_1 ⟨Nat.zero_le _, Nat.zero_le _⟩) (fun H locs hw => ?_)
  refine lv_if_eq (tgt := 16) hx hb dX12_ears_4 (by decide) (fun c1 => ?_) (fun c1 => ?_)
  · replace hf := ite_t hf c1
    refine lv_iconst (v := -1) hx hb dX12_ears_16 (by decide) ?_
    exact w_iret C hw hr (Option.some.inj hf) rfl dX12_ears_17
  · replace hf := ite_f hf c1
    refine lv_iload_n hx hb dX12_ears_7 rfl (lv_at hl 2 rfl) ?_
    refine lv_iconst (v := 0) hx hb dX12_ears_8 (by decide) ?_
    refine lv_iconst (v := 2) hx hb dX12_ears_9 (by decide) ?_
    refine w_goI hw (w_runS (rest := []) C hw (zX12_in _ _ st a2 (0 : Int32) (2 : Int32)) km_X12_147 kt_yX12_in kz_X12 kc_X12_in ok_yX12_in ⟨Nat.le_of_ble_eq_true rfl, Nat.le_of_ble_eq_true rfl⟩ rfl rfl rfl rfl hl.1 (Nat.le_of_ble_eq_true rfl) dX12_ears_10 ⟨Nat.zero_le _, Nat.zero_le _⟩) (fun H locs hw => ?_)
    refine lv_if_ne (tgt := 18) hx hb dX12_ears_13 (by decide) (fun c2 => ?_) (fun c2 => ?_)
    · replace hf := ite_f hf c2
      refine lv_aload_n hx hb dX12_ears_18 rfl (lv_at hl 0 rfl) ?_
      refine lv_iload_n hx hb dX12_ears_19 rfl (lv_at hl 1 rfl) ?_
      refine lv_iconst (v := 1) hx hb dX12_ears_20 (by decide) ?_
      obtain ⟨r3, k4, hf⟩ := bd_some hf
      refine w_goI hw (w_runV (rest := []) C hw (zX12_rowFault _ _ st a1 (1 : Int32) r3 k4) (by decide) (EM_0 X _ _) rfl km_X12_377 ki_yX12_rowFault kv_X12_rowFault kz_X12 kc_X12_rowFault rfl ok_yX12_rowFault ⟨Nat.le_of_ble_eq_true rfl, Nat.le_of_ble_eq_true rfl⟩ rfl rfl rfl rfl hl.1 (Nat.le_of_ble_eq_true rfl) dX12_ears_21 ⟨Nat.zero_le _, Nat.zero_le _⟩) (fun H locs hw => ?_)
      refine lv_istore_n (lv' := [(3, .int r3), (0, .ref (xq X 0)), (1, .int a1), (2, .int a2)]) hx hb dX12_ears_24 rfl hl (by decide) rfl (fun ls hl => ?_)
      refine lv_iload_n hx hb dX12_ears_25 rfl (lv_at hl 0 rfl) ?_
      refine lv_if_ge (tgt := 31) hx hb dX12_ears_26 (by decide) (fun c5 => ?_) (fun c5 => ?_)
      · replace hf := ite_t hf c5
        refine lv_iconst (v := 0) hx hb dX12_ears_31 (by decide) ?_
        refine lv_istore (lv' := [(4, .int (0 : Int32)), (3, .int r3), (0, .ref (xq X 0)), (1, .int a1), (2, .int a2)]) hx hb dX12_ears_32 hl (by decide) rfl (fun ls hl => ?_)
        refine lv_bipush (v := -2) hx hb dX12_ears_34 (by decide) ?_
        refine lv_istore (lv' := [(5, .int (-2 : Int32)), (4, .int (0 : Int32)), (3, .int r3), (0, .ref (xq X 0)), (1, .int a1), (2, .int a2)]) hx hb dX12_ears_36 hl (by decide) rfl (fun ls hl => ?_)
        refine lv_iconst (v := 0) hx hb dX12_ears_38 (by decide) ?_
        refine lv_istore (lv' := [(6, .int (0 : Int32)), (5, .int (-2 : Int32)), (4, .int (0 : Int32)), (3, .int r3), (0, .ref (xq X 0)), (1, .int a1), (2, .int a2)]) hx hb dX12_ears_39 hl (by decide) rfl (fun ls hl => ?_)
        exact tX12_ears_41 C hr n a1 a2 (0 : Int32) (-2 : Int32) (0 : Int32) _ _ _ hw (lv_sub hl [4, 5, 6, 2, 1, 0] rfl) hf
      · replace hf := ite_f hf c5
        refine lv_iload_n hx hb dX12_ears_29 rfl (lv_at hl 0 rfl) ?_
        exact w_iret C hw hr (Option.some.inj hf) rfl dX12_ears_30
    · replace hf := ite_t hf c2
      refine lv_iconst (v := -1) hx hb dX12_ears_16 (by decide) ?_
      exact w_iret C hw hr (Option.some.inj hf) rfl dX12_ears_17
theorem dX12_paidBy_0 : decode cX12_paidBy 0 = .ok (.aload_n 0, 1) := by decide +kernel
theorem dX12_paidBy_1 : decode cX12_paidBy 1 = .ok (.iload_n 1, 1) := by decide +kernel
theorem dX12_paidBy_2 : decode cX12_paidBy 2 = .ok (.invokevirtual 294, 3) := by decide +kernel
theorem dX12_paidBy_5 : decode cX12_paidBy 5 = .ok (.istore_n 2, 1) := by decide +kernel
theorem dX12_paidBy_6 : decode cX12_paidBy 6 = .ok (.iload_n 2, 1) := by decide +kernel
theorem dX12_paidBy_7 : decode cX12_paidBy 7 = .ok (.ifCond .ge 7, 3) := by decide +kernel
theorem dX12_paidBy_10 : decode cX12_paidBy 10 = .ok (.iconst 0, 1) := by decide +kernel
theorem dX12_paidBy_11 : decode cX12_paidBy 11 = .ok (.goto 8, 3) := by decide +kernel
theorem dX12_paidBy_14 : decode cX12_paidBy 14 = .ok (.aload_n 0, 1) := by decide +kernel
theorem dX12_paidBy_15 : decode cX12_paidBy 15 = .ok (.iload_n 1, 1) := by decide +kernel
theorem dX12_paidBy_16 : decode cX12_paidBy 16 = .ok (.invokevirtual 303, 3) := by decide +kernel
theorem dX12_paidBy_19 : decode cX12_paidBy 19 = .ok (.istore_n 3, 1) := by decide +kernel
theorem dX12_paidBy_20 : decode cX12_paidBy 20 = .ok (.iconst (-1), 1) := by decide +kernel
theorem dX12_paidBy_21 : decode cX12_paidBy 21 = .ok (.istore 4, 2) := by decide +kernel
theorem dX12_paidBy_23 : decode cX12_paidBy 23 = .ok (.iconst 0, 1) := by decide +kernel
theorem dX12_paidBy_24 : decode cX12_paidBy 24 = .ok (.istore 5, 2) := by decide +kernel
theorem dX12_paidBy_26 : decode cX12_paidBy 26 = .ok (.iload 5, 2) := by decide +kernel
theorem dX12_paidBy_28 : decode cX12_paidBy 28 = .ok (.aload_n 0, 1) := by decide +kernel
theorem dX12_paidBy_29 : decode cX12_paidBy 29 = .ok (.getfield 154, 3) := by decide +kernel
theorem dX12_paidBy_32 : decode cX12_paidBy 32 = .ok (.if_icmp .ge 60, 3) := by decide +kernel
theorem dX12_paidBy_35 : decode cX12_paidBy 35 = .ok (.iload_n 3, 1) := by decide +kernel
theorem dX12_paidBy_36 : decode cX12_paidBy 36 = .ok (.iload 5, 2) := by decide +kernel
theorem dX12_paidBy_38 : decode cX12_paidBy 38 = .ok (.ishr, 1) := by decide +kernel
theorem dX12_paidBy_39 : decode cX12_paidBy 39 = .ok (.iconst 1, 1) := by decide +kernel
theorem dX12_paidBy_40 : decode cX12_paidBy 40 = .ok (.iand, 1) := by decide +kernel
theorem dX12_paidBy_41 : decode cX12_paidBy 41 = .ok (.ifCond .eq 45, 3) := by decide +kernel
theorem dX12_paidBy_44 : decode cX12_paidBy 44 = .ok (.aload_n 0, 1) := by decide +kernel
theorem dX12_paidBy_45 : decode cX12_paidBy 45 = .ok (.getfield 40, 3) := by decide +kernel
theorem dX12_paidBy_48 : decode cX12_paidBy 48 = .ok (.iload 5, 2) := by decide +kernel
theorem dX12_paidBy_50 : decode cX12_paidBy 50 = .ok (.iaload, 1) := by decide +kernel
theorem dX12_paidBy_51 : decode cX12_paidBy 51 = .ok (.iload_n 2, 1) := by decide +kernel
theorem dX12_paidBy_52 : decode cX12_paidBy 52 = .ok (.if_icmp .ne 6, 3) := by decide +kernel
theorem dX12_paidBy_55 : decode cX12_paidBy 55 = .ok (.goto 31, 3) := by decide +kernel
theorem dX12_paidBy_58 : decode cX12_paidBy 58 = .ok (.iload 4, 2) := by decide +kernel
theorem dX12_paidBy_60 : decode cX12_paidBy 60 = .ok (.ifCond .lt 17, 3) := by decide +kernel
theorem dX12_paidBy_63 : decode cX12_paidBy 63 = .ok (.aload_n 0, 1) := by decide +kernel
theorem dX12_paidBy_64 : decode cX12_paidBy 64 = .ok (.getfield 40, 3) := by decide +kernel
theorem dX12_paidBy_67 : decode cX12_paidBy 67 = .ok (.iload 5, 2) := by decide +kernel
theorem dX12_paidBy_69 : decode cX12_paidBy 69 = .ok (.iaload, 1) := by decide +kernel
theorem dX12_paidBy_70 : decode cX12_paidBy 70 = .ok (.iload 4, 2) := by decide +kernel
theorem dX12_paidBy_72 : decode cX12_paidBy 72 = .ok (.if_icmp .eq 5, 3) := by decide +kernel
theorem dX12_paidBy_75 : decode cX12_paidBy 75 = .ok (.iconst (-1), 1) := by decide +kernel
theorem dX12_paidBy_76 : decode cX12_paidBy 76 = .ok (.ireturn, 1) := by decide +kernel
theorem dX12_paidBy_77 : decode cX12_paidBy 77 = .ok (.aload_n 0, 1) := by decide +kernel
theorem dX12_paidBy_78 : decode cX12_paidBy 78 = .ok (.getfield 40, 3) := by decide +kernel
theorem dX12_paidBy_81 : decode cX12_paidBy 81 = .ok (.iload 5, 2) := by decide +kernel
theorem dX12_paidBy_83 : decode cX12_paidBy 83 = .ok (.iaload, 1) := by decide +kernel
theorem dX12_paidBy_84 : decode cX12_paidBy 84 = .ok (.istore 4, 2) := by decide +kernel
theorem dX12_paidBy_86 : decode cX12_paidBy 86 = .ok (.iinc 5 1, 3) := by decide +kernel
theorem dX12_paidBy_89 : decode cX12_paidBy 89 = .ok (.goto (-63), 3) := by decide +kernel
theorem dX12_paidBy_92 : decode cX12_paidBy 92 = .ok (.iload 4, 2) := by decide +kernel
theorem dX12_paidBy_94 : decode cX12_paidBy 94 = .ok (.ireturn, 1) := by decide +kernel
theorem ok_yX12_paidBy : yOk yX12_paidBy 1 := ⟨by decide +kernel, by decide +kernel, by decide +kernel⟩
def fX12_paidBy_26 (n : Nat) : Nat → St → Int32 → Int32 → Int32 → Int32 → Option (Int32 × St)
  | 0, _, _, _, _, _ => none
  | k + 1, st, v2, v3, v4, v5 => if gI st 0 13 ≤ v5 then (some (v4, st)) else (if (v3 >>> (v5 &&& 31)) &&& (1 : Int32) = 0 then (bnd (v5 + (1 : Int32)) (fun x8 => fX12_paidBy_26 n k st v2 v3 v4 x8)) else (gd (inB v5 13) (if gI st 11 v5.toNatClampNeg = v2 then (bnd (v5 + (1 : Int32)) (fun x25 => fX12_paidBy_26 n k st v2 v3 v4 x25)) else (if v4 < 0 then (gd (inB v5 13) (bnd (gI st 11 v5.toNatClampNeg) (fun x14 => bnd (v5 + (1 : Int32)) (fun x16 => fX12_paidBy_26 n k st v2 v3 x14 x16)))) else (gd (inB v5 13) (if gI st 11 v5.toNatClampNeg = v4 then (gd (inB v5 13) (bnd (gI st 11 v5.toNatClampNeg) (fun x21 => bnd (v5 + (1 : Int32)) (fun x23 => fX12_paidBy_26 n k st v2 v3 x21 x23)))) else (some ((-1 : Int32), st))))))))
set_option maxHeartbeats 4000000 in
theorem tX12_paidBy_26 {p : Program} {l : Launch} {e : Env} {s : State} {m : MethodId} {args : Array Value} {below : List Frame} {meth : Method} {c : Code} {X : WX} (C : Amb 43 X p s m args meth c cX12_paidBy 6 RX12) (hr : meth.sig.returnType = some .int) {R : Int32 × St} {n : Nat} : ∀ (k : Nat) (st : St) (v2 : Int32) (v3 : Int32) (v4 : Int32) (v5 : Int32) (H : Heap) (locs : List Loc) (ls : Array Slot), Wd EM 43 X s.heap st H locs → lv_has ls 6 [(0, .ref (xq X 0)), (2, .int v2), (3, .int v3), (4, .int v4), (5, .int v5)] → fX12_paidBy_26 n k st v2 v3 v4 v5 = some R → W p l e { frames := 5, cells := 0, slots := 0, locals := 120 } s m args below meth c H locs 0 0 (QI EM 43 X R.1 R.2 below args s) (F0 m 26 ls []) := by
  obtain ⟨hx, hb, hml, hown, hts⟩ := id C.1
  intro k
  induction k with
  | zero => intro st v2 v3 v4 v5 H locs ls  hw hl hf; exact absurd (show none = some R from hf) (fun z => by cases z)
  | succ k ih =>
    intro st v2 v3 v4 v5 H locs ls  hw hl hf
    rw [fX12_paidBy_26] at hf
    refine lv_iload hx hb dX12_paidBy_26 (lv_at hl 4 rfl) ?_
    refine lv_aload_n hx hb dX12_paidBy_28 rfl (lv_at hl 0 rfl) ?_
    refine w_get (T := TX12) C hw (by decide) 13 kf_X12_154 (EM_0 X _ _) rfl inA12 (by decide) rfl dX12_paidBy_29 ?_
    refine lv_icmp_ge (tgt := 92) hx hb dX12_paidBy_32 (by decide) (fun c6 => ?_) (fun c6 => ?_)
    · replace hf := ite_t hf c6
      refine lv_iload hx hb dX12_paidBy_92 (lv_at hl 3 rfl) ?_
      exact w_iret C hw hr (so2 hf).1 (so2 hf).2 dX12_paidBy_94
    · replace hf := ite_f hf c6
      refine lv_iload_n hx hb dX12_paidBy_35 rfl (lv_at hl 2 rfl) ?_
      refine lv_iload hx hb dX12_paidBy_36 (lv_at hl 4 rfl) ?_
      refine lv_ishr hx hb dX12_paidBy_38 ?_
      refine lv_iconst (v := 1) hx hb dX12_paidBy_39 (by decide) ?_
      refine lv_iand hx hb dX12_paidBy_40 ?_
      refine lv_if_eq (tgt := 86) hx hb dX12_paidBy_41 (by decide) (fun c7 => ?_) (fun c7 => ?_)
      · replace hf := ite_t hf c7
        obtain ⟨x8, e9⟩ : ∃ z : Int32, z = v5 + (1 : Int32) := ⟨_, rfl⟩
        replace hf := bnd_nm hf e9
        refine lv_iinc (v := x8) (lv' := [(5, .int x8), (0, .ref (xq X 0)), (2, .int v2), (3, .int v3), (4, .int v4)]) hx hb dX12_paidBy_86 hl (k := 4) rfl (by rw [e9]; rfl) (by decide) rfl (fun ls hl => ?_)
        refine lv_goto (tgt := 26) hx hb dX12_paidBy_89 (by decide) ?_
        exact ih st v2 v3 v4 x8 _ _ _ hw (lv_sub hl [1, 2, 3, 4, 0] rfl) hf
      · replace hf := ite_f hf c7
        refine lv_aload_n hx hb dX12_paidBy_44 rfl (lv_at hl 0 rfl) ?_
        refine w_get (T := TX12) C hw (by decide) 14 kf_X12_40 (EM_0 X _ _) rfl inA12 (by decide) rfl dX12_paidBy_45 ?_
        refine lv_iload hx hb dX12_paidBy_48 (lv_at hl 4 rfl) ?_
        obtain ⟨h10, hf⟩ := gd_some hf
        refine w_iald C hw (by decide) (EM_11 X _ _) h10 rfl dX12_paidBy_50 ?_
        refine lv_iload_n hx hb dX12_paidBy_51 rfl (lv_at hl 1 rfl) ?_
        refine lv_icmp_ne (tgt := 58) hx hb dX12_paidBy_52 (by decide) (fun c11 => ?_) (fun c11 => ?_)
        · replace hf := ite_f hf c11
          refine lv_iload hx hb dX12_paidBy_58 (lv_at hl 3 rfl) ?_
          refine lv_if_lt (tgt := 77) hx hb dX12_paidBy_60 (by decide) (fun c12 => ?_) (fun c12 => ?_)
          · replace hf := ite_t hf c12
            refine lv_aload_n hx hb dX12_paidBy_77 rfl (lv_at hl 0 rfl) ?_
            refine w_get (T := TX12) C hw (by decide) 14 kf_X12_40 (EM_0 X _ _) rfl inA12 (by decide) rfl dX12_paidBy_78 ?_
            refine lv_iload hx hb dX12_paidBy_81 (lv_at hl 4 rfl) ?_
            obtain ⟨h13, hf⟩ := gd_some hf
            refine w_iald C hw (by decide) (EM_11 X _ _) h13 rfl dX12_paidBy_83 ?_
            refine lv_topi (fun x14 e15 => ?_)
            replace hf := bnd_nm hf e15
            refine lv_istore (lv' := [(4, .int x14), (0, .ref (xq X 0)), (2, .int v2), (3, .int v3), (5, .int v5)]) hx hb dX12_paidBy_84 hl (by decide) rfl (fun ls hl => ?_)
            obtain ⟨x16, e17⟩ : ∃ z : Int32, z = v5 + (1 : Int32) := ⟨_, rfl⟩
            replace hf := bnd_nm hf e17
            refine lv_iinc (v := x16) (lv' := [(5, .int x16), (4, .int x14), (0, .ref (xq X 0)), (2, .int v2), (3, .int v3)]) hx hb dX12_paidBy_86 hl (k := 4) rfl (by rw [e17]; rfl) (by decide) rfl (fun ls hl => ?_)
            refine lv_goto (tgt := 26) hx hb dX12_paidBy_89 (by decide) ?_
            exact ih st v2 v3 x14 x16 _ _ _ hw (lv_sub hl [2, 3, 4, 1, 0] rfl) hf
          · replace hf := ite_f hf c12
            refine lv_aload_n hx hb dX12_paidBy_63 rfl (lv_at hl 0 rfl) ?_
            refine w_get (T := TX12) C hw (by decide) 14 kf_X12_40 (EM_0 X _ _) rfl inA12 (by decide) rfl dX12_paidBy_64 ?_
            refine lv_iload hx hb dX12_paidBy_67 (lv_at hl 4 rfl) ?_
            obtain ⟨h18, hf⟩ := gd_some hf
            refine w_iald C hw (by decide) (EM_11 X _ _) h18 rfl dX12_paidBy_69 ?_
            refine lv_iload hx hb dX12_paidBy_70 (lv_at hl 3 rfl) ?_
            refine lv_icmp_eq (tgt := 77) hx hb dX12_paidBy_72 (by decide) (fun c19 => ?_) (fun c19 => ?_)
            · replace hf := ite_t hf c19
              refine lv_aload_n hx hb dX12_paidBy_77 rfl (lv_at hl 0 rfl) ?_
              refine w_get (T := TX12) C hw (by decide) 14 kf_X12_40 (EM_0 X _ _) rfl inA12 (by decide) rfl dX12_paidBy_78 ?_
              refine lv_iload hx hb dX12_paidBy_81 (lv_at hl 4 rfl) ?_
              obtain ⟨h20, hf⟩ := gd_some hf
              refine w_iald C hw (by decide) (EM_11 X _ _) h20 rfl dX12_paidBy_83 ?_
              refine lv_topi (fun x21 e22 => ?_)
              replace hf := bnd_nm hf e22
              refine lv_istore (lv' := [(4, .int x21), (0, .ref (xq X 0)), (2, .int v2), (3, .int v3), (5, .int v5)]) hx hb dX12_paidBy_84 hl (by decide) rfl (fun ls hl => ?_)
              obtain ⟨x23, e24⟩ : ∃ z : Int32, z = v5 + (1 : Int32) := ⟨_, rfl⟩
              replace hf := bnd_nm hf e24
              refine lv_iinc (v := x23) (lv' := [(5, .int x23), (4, .int x21), (0, .ref (xq X 0)), (2, .int v2), (3, .int v3)]) hx hb dX12_paidBy_86 hl (k := 4) rfl (by rw [e24]; rfl) (by decide) rfl (fun ls hl => ?_)
              refine lv_goto (tgt := 26) hx hb dX12_paidBy_89 (by decide) ?_
              exact ih st v2 v3 x21 x23 _ _ _ hw (lv_sub hl [2, 3, 4, 1, 0] rfl) hf
            · replace hf := ite_f hf c19
              refine lv_iconst (v := -1) hx hb dX12_paidBy_75 (by decide) ?_
              exact w_iret C hw hr (so2 hf).1 (so2 hf).2 dX12_paidBy_76
        · replace hf := ite_t hf c11
          refine lv_goto (tgt := 86) hx hb dX12_paidBy_55 (by decide) ?_
          obtain ⟨x25, e26⟩ : ∃ z : Int32, z = v5 + (1 : Int32) := ⟨_, rfl⟩
          replace hf := bnd_nm hf e26
          refine lv_iinc (v := x25) (lv' := [(5, .int x25), (0, .ref (xq X 0)), (2, .int v2), (3, .int v3), (4, .int v4)]) hx hb dX12_paidBy_86 hl (k := 4) rfl (by rw [e26]; rfl) (by decide) rfl (fun ls hl => ?_)
          refine lv_goto (tgt := 26) hx hb dX12_paidBy_89 (by decide) ?_
          exact ih st v2 v3 v4 x25 _ _ _ hw (lv_sub hl [1, 2, 3, 4, 0] rfl) hf
def fX12_paidBy_19 (n : Nat) (st : St) (v2 : Int32) (w0 : Int32) : Option (Int32 × St) := fX12_paidBy_26 n n st v2 w0 (-1 : Int32) (0 : Int32)
set_option maxHeartbeats 4000000 in
theorem tX12_paidBy_19 {p : Program} {l : Launch} {e : Env} {s : State} {m : MethodId} {args : Array Value} {below : List Frame} {meth : Method} {c : Code} {X : WX} (C : Amb 43 X p s m args meth c cX12_paidBy 6 RX12) (hr : meth.sig.returnType = some .int) {R : Int32 × St} {n : Nat} : ∀ (st : St) (v2 : Int32) (w0 : Int32) (H : Heap) (locs : List Loc) (ls : Array Slot), Wd EM 43 X s.heap st H locs → lv_has ls 6 [(0, .ref (xq X 0)), (2, .int v2)] → fX12_paidBy_19 n st v2 w0 = some R → W p l e { frames := 5, cells := 0, slots := 0, locals := 120 } s m args below meth c H locs 0 0 (QI EM 43 X R.1 R.2 below args s) (F0 m 19 ls [.int w0]) := by
  obtain ⟨hx, hb, hml, hown, hts⟩ := id C.1
  intro st v2 w0 H locs ls  hw hl hf
  unfold fX12_paidBy_19 at hf
  refine lv_istore_n (lv' := [(3, .int w0), (0, .ref (xq X 0)), (2, .int v2)]) hx hb dX12_paidBy_19 rfl hl (by decide) rfl (fun ls hl => ?_)
  refine lv_iconst (v := -1) hx hb dX12_paidBy_20 (by decide) ?_
  refine lv_istore (lv' := [(4, .int (-1 : Int32)), (3, .int w0), (0, .ref (xq X 0)), (2, .int v2)]) hx hb dX12_paidBy_21 hl (by decide) rfl (fun ls hl => ?_)
  refine lv_iconst (v := 0) hx hb dX12_paidBy_23 (by decide) ?_
  refine lv_istore (lv' := [(5, .int (0 : Int32)), (4, .int (-1 : Int32)), (3, .int w0), (0, .ref (xq X 0)), (2, .int v2)]) hx hb dX12_paidBy_24 hl (by decide) rfl (fun ls hl => ?_)
  exact tX12_paidBy_26 C hr n st v2 w0 (-1 : Int32) (0 : Int32) _ _ _ hw (lv_sub hl [3, 4, 2, 1, 0] rfl) hf
def fX12_paidBy (n : Nat) (st : St) (a1 : Int32) : Option (Int32 × St) := (fX12_finder n st a1).bind (fun r1 => if 0 ≤ r1 then ((fX12_haveIt n st a1).bind (fun r4 => fX12_paidBy_19 n r4.2 r1 r4.1)) else (fX12_paidBy_19 n st r1 (0 : Int32)))
set_option maxHeartbeats 4000000 in
theorem zX12_paidBy (l : Launch) (X : WX) (n : Nat) (st : St) (a1 : Int32) (R : Int32 × St) (hf : fX12_paidBy n st a1 = some R) : CtI l yX12_paidBy cX12_paidBy 6 .int ({ frames := 5, cells := 0, slots := 0, locals := 120 }) EM 43 X [.ref (xq X 0), .int a1] st R.1 R.2 := by
  refine ct_in (own := RX12) (by decide +kernel) rfl (Nat.le_of_ble_eq_true rfl) (fun p e s m below meth c C hr hw ls hl => ?_)
  obtain ⟨hx, hb, hml, hown, hts⟩ := id C.1
  have hl : lv_has ls 6 [(0, .ref (xq X 0)), (1, .int a1)] := hl
  unfold fX12_paidBy at hf
  refine lv_aload_n hx hb dX12_paidBy_0 rfl (lv_at hl 0 rfl) ?_
  refine lv_iload_n hx hb dX12_paidBy_1 rfl (lv_at hl 1 rfl) ?_
  obtain ⟨r1, k2, hf⟩ := bd_some hf
  refine w_goI hw (w_runV (rest := []) C hw (zX12_finder _ _ n st a1 r1 k2) (by decide) (EM_0 X _ _) rfl km_X12_294 ki_yX12_finder kv_X12_finder kz_X12 kc_X12_finder rfl ok_yX12_finder ⟨Nat.le_of_ble_eq_true rfl, Nat.le_of_ble_eq_true rfl⟩ rfl rfl rfl rfl hl.1 (Nat.le_of_ble_eq_true rfl) dX12_paidBy_2 ⟨Nat.zero_le _, Nat.zero_le _⟩) (fun H locs hw => ?_)
  refine lv_istore_n (lv' := [(2, .int r1), (0, .ref (xq X 0)), (1, .int a1)]) hx hb dX12_paidBy_5 rfl hl (by decide) rfl (fun ls hl => ?_)
  refine lv_iload_n hx hb dX12_paidBy_6 rfl (lv_at hl 0 rfl) ?_
  refine lv_if_ge (tgt := 14) hx hb dX12_paidBy_7 (by decide) (fun c3 => ?_) (fun c3 => ?_)
  · replace hf := ite_t hf c3
    refine lv_aload_n hx hb dX12_paidBy_14 rfl (lv_at hl 1 rfl) ?_
    refine lv_iload_n hx hb dX12_paidBy_15 rfl (lv_at hl 2 rfl) ?_
    obtain ⟨r4, k5, hf⟩ := bd_some hf
    refine w_goI hw (w_runV (rest := []) C hw (zX12_haveIt _ _ n st a1 r4 k5) (by decide) (EM_0 X _ _) rfl km_X12_303 ki_yX12_haveIt kv_X12_haveIt kz_X12 kc_X12_haveIt rfl ok_yX12_haveIt ⟨Nat.le_of_ble_eq_true rfl, Nat.le_of_ble_eq_true rfl⟩ rfl rfl rfl rfl hl.1 (Nat.le_of_ble_eq_true rfl) dX12_paidBy_16 ⟨Nat.zero_le _, Nat.zero_le _⟩) (fun H locs hw => ?_)
    exact tX12_paidBy_19 C hr r4.2 r1 r4.1 _ _ _ hw (lv_sub hl [1, 0] rfl) hf
  · replace hf := ite_f hf c3
    refine lv_iconst (v := 0) hx hb dX12_paidBy_10 (by decide) ?_
    refine lv_goto (tgt := 19) hx hb dX12_paidBy_11 (by decide) ?_
    exact tX12_paidBy_19 C hr st r1 (0 : Int32) _ _ _ hw (lv_sub hl [1, 0] rfl) hf
theorem dX12_wrongYear_0 : decode cX12_wrongYear 0 = .ok (.iconst 0, 1) := by decide +kernel
theorem dX12_wrongYear_1 : decode cX12_wrongYear 1 = .ok (.istore_n 2, 1) := by decide +kernel
theorem dX12_wrongYear_2 : decode cX12_wrongYear 2 = .ok (.iload_n 2, 1) := by decide +kernel
theorem dX12_wrongYear_3 : decode cX12_wrongYear 3 = .ok (.aload_n 0, 1) := by decide +kernel
theorem dX12_wrongYear_4 : decode cX12_wrongYear 4 = .ok (.getfield 130, 3) := by decide +kernel
theorem dX12_wrongYear_7 : decode cX12_wrongYear 7 = .ok (.iload_n 1, 1) := by decide +kernel
theorem dX12_wrongYear_8 : decode cX12_wrongYear 8 = .ok (.iaload, 1) := by decide +kernel
theorem dX12_wrongYear_9 : decode cX12_wrongYear 9 = .ok (.if_icmp .ge 33, 3) := by decide +kernel
theorem dX12_wrongYear_12 : decode cX12_wrongYear 12 = .ok (.aload_n 0, 1) := by decide +kernel
theorem dX12_wrongYear_13 : decode cX12_wrongYear 13 = .ok (.iload_n 2, 1) := by decide +kernel
theorem dX12_wrongYear_14 : decode cX12_wrongYear 14 = .ok (.invokevirtual 197, 3) := by decide +kernel
theorem dX12_wrongYear_17 : decode cX12_wrongYear 17 = .ok (.ifCond .eq 17, 3) := by decide +kernel
theorem dX12_wrongYear_20 : decode cX12_wrongYear 20 = .ok (.aload_n 0, 1) := by decide +kernel
theorem dX12_wrongYear_21 : decode cX12_wrongYear 21 = .ok (.iload_n 2, 1) := by decide +kernel
theorem dX12_wrongYear_22 : decode cX12_wrongYear 22 = .ok (.invokevirtual 392, 3) := by decide +kernel
theorem dX12_wrongYear_25 : decode cX12_wrongYear 25 = .ok (.aload_n 0, 1) := by decide +kernel
theorem dX12_wrongYear_26 : decode cX12_wrongYear 26 = .ok (.iload_n 1, 1) := by decide +kernel
theorem dX12_wrongYear_27 : decode cX12_wrongYear 27 = .ok (.iload_n 2, 1) := by decide +kernel
theorem dX12_wrongYear_28 : decode cX12_wrongYear 28 = .ok (.invokevirtual 367, 3) := by decide +kernel
theorem dX12_wrongYear_31 : decode cX12_wrongYear 31 = .ok (.if_icmp .eq 5, 3) := by decide +kernel
theorem dX12_wrongYear_34 : decode cX12_wrongYear 34 = .ok (.iload_n 2, 1) := by decide +kernel
theorem dX12_wrongYear_35 : decode cX12_wrongYear 35 = .ok (.ireturn, 1) := by decide +kernel
theorem dX12_wrongYear_36 : decode cX12_wrongYear 36 = .ok (.iinc 2 1, 3) := by decide +kernel
theorem dX12_wrongYear_39 : decode cX12_wrongYear 39 = .ok (.goto (-37), 3) := by decide +kernel
theorem dX12_wrongYear_42 : decode cX12_wrongYear 42 = .ok (.bipush (-2), 2) := by decide +kernel
theorem dX12_wrongYear_44 : decode cX12_wrongYear 44 = .ok (.ireturn, 1) := by decide +kernel
theorem ok_yX12_wrongYear : yOk yX12_wrongYear 1 := ⟨by decide +kernel, by decide +kernel, by decide +kernel⟩
def fX12_wrongYear_2 (n : Nat) : Nat → St → Int32 → Int32 → Option (Int32 × St)
  | 0, _, _, _ => none
  | k + 1, st, v1, v2 => gd (inB v1 6) (if gI st 40 v1.toNatClampNeg ≤ v2 then (some ((-2 : Int32), st)) else (if bI (fX12_isFall st v2) = 0 then (some (v2, st)) else ((fX12_paidBy n st v2).bind (fun r4 => (fX12_told r4.2 v1 v2).bind (fun r6 => if r4.1 = r6 then (bnd (v2 + (1 : Int32)) (fun x9 => fX12_wrongYear_2 n k r4.2 v1 x9)) else (some (v2, r4.2)))))))
set_option maxHeartbeats 4000000 in
theorem tX12_wrongYear_2 {p : Program} {l : Launch} {e : Env} {s : State} {m : MethodId} {args : Array Value} {below : List Frame} {meth : Method} {c : Code} {X : WX} (C : Amb 43 X p s m args meth c cX12_wrongYear 3 RX12) (hr : meth.sig.returnType = some .int) {R : Int32 × St} {n : Nat} : ∀ (k : Nat) (st : St) (v1 : Int32) (v2 : Int32) (H : Heap) (locs : List Loc) (ls : Array Slot), Wd EM 43 X s.heap st H locs → lv_has ls 3 [(0, .ref (xq X 0)), (1, .int v1), (2, .int v2)] → fX12_wrongYear_2 n k st v1 v2 = some R → W p l e { frames := 6, cells := 0, slots := 0, locals := 145 } s m args below meth c H locs 0 0 (QI EM 43 X R.1 R.2 below args s) (F0 m 2 ls []) := by
  obtain ⟨hx, hb, hml, hown, hts⟩ := id C.1
  intro k
  induction k with
  | zero => intro st v1 v2 H locs ls  hw hl hf; exact absurd (show none = some R from hf) (fun z => by cases z)
  | succ k ih =>
    intro st v1 v2 H locs ls  hw hl hf
    rw [fX12_wrongYear_2] at hf
    refine lv_iload_n hx hb dX12_wrongYear_2 rfl (lv_at hl 2 rfl) ?_
    refine lv_aload_n hx hb dX12_wrongYear_3 rfl (lv_at hl 0 rfl) ?_
    refine w_get (T := TX12) C hw (by decide) 55 kf_X12_130 (EM_0 X _ _) rfl inA12 (by decide) rfl dX12_wrongYear_4 ?_
    refine lv_iload_n hx hb dX12_wrongYear_7 rfl (lv_at hl 1 rfl) ?_
    obtain ⟨h1, hf⟩ := gd_some hf
    refine w_iald C hw (by decide) (EM_40 X _ _) h1 rfl dX12_wrongYear_8 ?_
    refine lv_icmp_ge (tgt := 42) hx hb dX12_wrongYear_9 (by decide) (fun c2 => ?_) (fun c2 => ?_)
    · replace hf := ite_t hf c2
      refine lv_bipush (v := -2) hx hb dX12_wrongYear_42 (by decide) ?_
      exact w_iret C hw hr (so2 hf).1 (so2 hf).2 dX12_wrongYear_44
    · replace hf := ite_f hf c2
      refine lv_aload_n hx hb dX12_wrongYear_12 rfl (lv_at hl 0 rfl) ?_
      refine lv_iload_n hx hb dX12_wrongYear_13 rfl (lv_at hl 2 rfl) ?_
      refine w_goI hw (w_runV (rest := []) C hw (zX12_isFall _ _ st v2) (by decide) (EM_0 X _ _) rfl km_X12_197 ki_yX12_isFall kv_X12_isFall kz_X12 kc_X12_isFall rfl ok_yX12_isFall ⟨Nat.le_of_ble_eq_true rfl, Nat.le_of_ble_eq_true rfl⟩ rfl rfl rfl rfl hl.1 (Nat.le_of_ble_eq_true rfl) dX12_wrongYear_14 ⟨Nat.zero_le _, Nat.zero_le _⟩) (fun H locs hw => ?_)
      refine lv_if_eq (tgt := 34) hx hb dX12_wrongYear_17 (by decide) (fun c3 => ?_) (fun c3 => ?_)
      · replace hf := ite_t hf c3
        refine lv_iload_n hx hb dX12_wrongYear_34 rfl (lv_at hl 2 rfl) ?_
        exact w_iret C hw hr (so2 hf).1 (so2 hf).2 dX12_wrongYear_35
      · replace hf := ite_f hf c3
        refine lv_aload_n hx hb dX12_wrongYear_20 rfl (lv_at hl 0 rfl) ?_
        refine lv_iload_n hx hb dX12_wrongYear_21 rfl (lv_at hl 2 rfl) ?_
        obtain ⟨r4, k5, hf⟩ := bd_some hf
        refine w_goI hw (w_runV (rest := []) C hw (zX12_paidBy _ _ n st v2 r4 k5) (by decide) (EM_0 X _ _) rfl km_X12_392 ki_yX12_paidBy kv_X12_paidBy kz_X12 kc_X12_paidBy rfl ok_yX12_paidBy ⟨Nat.le_of_ble_eq_true rfl, Nat.le_of_ble_eq_true rfl⟩ rfl rfl rfl rfl hl.1 (Nat.le_of_ble_eq_true rfl) dX12_wrongYear_22 ⟨Nat.zero_le _, Nat.zero_le _⟩) (fun H locs hw => ?_)
        refine lv_aload_n hx hb dX12_wrongYear_25 rfl (lv_at hl 0 rfl) ?_
        refine lv_iload_n hx hb dX12_wrongYear_26 rfl (lv_at hl 1 rfl) ?_
        refine lv_iload_n hx hb dX12_wrongYear_27 rfl (lv_at hl 2 rfl) ?_
        obtain ⟨r6, k7, hf⟩ := bd_some hf
        refine w_goI hw (w_runV (rest := [.int r4.1]) C hw (zX12_told _ _ r4.2 v1 v2 r6 k7) (by decide) (EM_0 X _ _) rfl km_X12_367 ki_yX12_told kv_X12_told kz_X12 kc_X12_told rfl ok_yX12_told ⟨Nat.le_of_ble_eq_true rfl, Nat.le_of_ble_eq_true rfl⟩ rfl rfl rfl rfl hl.1 (Nat.le_of_ble_eq_true rfl) dX12_wrongYear_28 ⟨Nat.zero_le _, Nat.zero_le _⟩) (fun H locs hw => ?_)
        refine lv_icmp_eq (tgt := 36) hx hb dX12_wrongYear_31 (by decide) (fun c8 => ?_) (fun c8 => ?_)
        · replace hf := ite_t hf c8
          obtain ⟨x9, e10⟩ : ∃ z : Int32, z = v2 + (1 : Int32) := ⟨_, rfl⟩
          replace hf := bnd_nm hf e10
          refine lv_iinc (v := x9) (lv' := [(2, .int x9), (0, .ref (xq X 0)), (1, .int v1)]) hx hb dX12_wrongYear_36 hl (k := 2) rfl (by rw [e10]; rfl) (by decide) rfl (fun ls hl => ?_)
          refine lv_goto (tgt := 2) hx hb dX12_wrongYear_39 (by decide) ?_
          exact ih r4.2 v1 x9 _ _ _ hw (lv_sub hl [1, 2, 0] rfl) hf
        · replace hf := ite_f hf c8
          refine lv_iload_n hx hb dX12_wrongYear_34 rfl (lv_at hl 2 rfl) ?_
          exact w_iret C hw hr (so2 hf).1 (so2 hf).2 dX12_wrongYear_35
def fX12_wrongYear (n : Nat) (st : St) (a1 : Int32) : Option (Int32 × St) := fX12_wrongYear_2 n n st a1 (0 : Int32)
set_option maxHeartbeats 4000000 in
theorem zX12_wrongYear (l : Launch) (X : WX) (n : Nat) (st : St) (a1 : Int32) (R : Int32 × St) (hf : fX12_wrongYear n st a1 = some R) : CtI l yX12_wrongYear cX12_wrongYear 3 .int ({ frames := 6, cells := 0, slots := 0, locals := 145 }) EM 43 X [.ref (xq X 0), .int a1] st R.1 R.2 := by
  refine ct_in (own := RX12) (by decide +kernel) rfl (Nat.le_of_ble_eq_true rfl) (fun p e s m below meth c C hr hw ls hl => ?_)
  obtain ⟨hx, hb, hml, hown, hts⟩ := id C.1
  have hl : lv_has ls 3 [(0, .ref (xq X 0)), (1, .int a1)] := hl
  unfold fX12_wrongYear at hf
  refine lv_iconst (v := 0) hx hb dX12_wrongYear_0 (by decide) ?_
  refine lv_istore_n (lv' := [(2, .int (0 : Int32)), (0, .ref (xq X 0)), (1, .int a1)]) hx hb dX12_wrongYear_1 rfl hl (by decide) rfl (fun ls hl => ?_)
  exact tX12_wrongYear_2 C hr n st a1 (0 : Int32) _ _ _ hw (lv_sub hl [1, 2, 0] rfl) hf
theorem dX12_judge_0 : decode cX12_judge 0 = .ok (.iload_n 1, 1) := by decide +kernel
theorem dX12_judge_1 : decode cX12_judge 1 = .ok (.invokestatic 168, 3) := by decide +kernel
theorem dX12_judge_4 : decode cX12_judge 4 = .ok (.ifCond .ne 5, 3) := by decide +kernel
theorem dX12_judge_7 : decode cX12_judge 7 = .ok (.iconst (-1), 1) := by decide +kernel
theorem dX12_judge_8 : decode cX12_judge 8 = .ok (.ireturn, 1) := by decide +kernel
theorem dX12_judge_9 : decode cX12_judge 9 = .ok (.aload_n 0, 1) := by decide +kernel
theorem dX12_judge_10 : decode cX12_judge 10 = .ok (.iload_n 1, 1) := by decide +kernel
theorem dX12_judge_11 : decode cX12_judge 11 = .ok (.iconst 0, 1) := by decide +kernel
theorem dX12_judge_12 : decode cX12_judge 12 = .ok (.invokevirtual 377, 3) := by decide +kernel
theorem dX12_judge_15 : decode cX12_judge 15 = .ok (.istore_n 2, 1) := by decide +kernel
theorem dX12_judge_16 : decode cX12_judge 16 = .ok (.iload_n 2, 1) := by decide +kernel
theorem dX12_judge_17 : decode cX12_judge 17 = .ok (.ifCond .ge 7, 3) := by decide +kernel
theorem dX12_judge_20 : decode cX12_judge 20 = .ok (.iload_n 2, 1) := by decide +kernel
theorem dX12_judge_21 : decode cX12_judge 21 = .ok (.goto 8, 3) := by decide +kernel
theorem dX12_judge_24 : decode cX12_judge 24 = .ok (.aload_n 0, 1) := by decide +kernel
theorem dX12_judge_25 : decode cX12_judge 25 = .ok (.iload_n 1, 1) := by decide +kernel
theorem dX12_judge_26 : decode cX12_judge 26 = .ok (.invokevirtual 395, 3) := by decide +kernel
theorem dX12_judge_29 : decode cX12_judge 29 = .ok (.ireturn, 1) := by decide +kernel
theorem ok_yX12_judge : yOk yX12_judge 1 := ⟨by decide +kernel, by decide +kernel, by decide +kernel⟩
def fX12_judge (n : Nat) (st : St) (a1 : Int32) : Option (Int32 × St) := if bI (fX12_isShelf a1) = 0 then (some ((-1 : Int32), st)) else ((fX12_rowFault st a1 (0 : Int32)).bind (fun r2 => if 0 ≤ r2 then ((fX12_wrongYear n st a1).bind (fun r5 => some (r5.1, r5.2))) else (some (r2, st))))
set_option maxHeartbeats 4000000 in
theorem zX12_judge (l : Launch) (X : WX) (n : Nat) (st : St) (a1 : Int32) (R : Int32 × St) (hf : fX12_judge n st a1 = some R) : CtI l yX12_judge cX12_judge 3 .int ({ frames := 7, cells := 0, slots := 0, locals := 167 }) EM 43 X [.ref (xq X 0), .int a1] st R.1 R.2 := by
  refine ct_in (own := RX12) (by decide +kernel) rfl (Nat.le_of_ble_eq_true rfl) (fun p e s m below meth c C hr hw ls hl => ?_)
  obtain ⟨hx, hb, hml, hown, hts⟩ := id C.1
  have hl : lv_has ls 3 [(0, .ref (xq X 0)), (1, .int a1)] := hl
  unfold fX12_judge at hf
  refine lv_iload_n hx hb dX12_judge_0 rfl (lv_at hl 1 rfl) ?_
  refine w_goI hw (w_runS (rest := []) C hw (zX12_isShelf _ _ st a1) km_X12_168 kt_yX12_isShelf kz_X12 kc_X12_isShelf ok_yX12_isShelf ⟨Nat.le_of_ble_eq_true rfl, Nat.le_of_ble_eq_true rfl⟩ rfl rfl rfl rfl hl.1 (Nat.le_of_ble_eq_true rfl) dX12_judge_1 ⟨Nat.zero_le _, Nat.zero_le _⟩) (fun H locs hw => ?_)
  refine lv_if_ne (tgt := 9) hx hb dX12_judge_4 (by decide) (fun c1 => ?_) (fun c1 => ?_)
  · replace hf := ite_f hf c1
    refine lv_aload_n hx hb dX12_judge_9 rfl (lv_at hl 0 rfl) ?_
    refine lv_iload_n hx hb dX12_judge_10 rfl (lv_at hl 1 rfl) ?_
    refine lv_iconst (v := 0) hx hb dX12_judge_11 (by decide) ?_
    obtain ⟨r2, k3, hf⟩ := bd_some hf
    refine w_goI hw (w_runV (rest := []) C hw (zX12_rowFault _ _ st a1 (0 : Int32) r2 k3) (by decide) (EM_0 X _ _) rfl km_X12_377 ki_yX12_rowFault kv_X12_rowFault kz_X12 kc_X12_rowFault rfl ok_yX12_rowFault ⟨Nat.le_of_ble_eq_true rfl, Nat.le_of_ble_eq_true rfl⟩ rfl rfl rfl rfl hl.1 (Nat.le_of_ble_eq_true rfl) dX12_judge_12 ⟨Nat.zero_le _, Nat.zero_le _⟩) (fun H locs hw => ?_)
    refine lv_istore_n (lv' := [(2, .int r2), (0, .ref (xq X 0)), (1, .int a1)]) hx hb dX12_judge_15 rfl hl (by decide) rfl (fun ls hl => ?_)
    refine lv_iload_n hx hb dX12_judge_16 rfl (lv_at hl 0 rfl) ?_
    refine lv_if_ge (tgt := 24) hx hb dX12_judge_17 (by decide) (fun c4 => ?_) (fun c4 => ?_)
    · replace hf := ite_t hf c4
      refine lv_aload_n hx hb dX12_judge_24 rfl (lv_at hl 1 rfl) ?_
      refine lv_iload_n hx hb dX12_judge_25 rfl (lv_at hl 2 rfl) ?_
      obtain ⟨r5, k6, hf⟩ := bd_some hf
      refine w_goI hw (w_runV (rest := []) C hw (zX12_wrongYear _ _ n st a1 r5 k6) (by decide) (EM_0 X _ _) rfl km_X12_395 ki_yX12_wrongYear kv_X12_wrongYear kz_X12 kc_X12_wrongYear rfl ok_yX12_wrongYear ⟨Nat.le_of_ble_eq_true rfl, Nat.le_of_ble_eq_true rfl⟩ rfl rfl rfl rfl hl.1 (Nat.le_of_ble_eq_true rfl) dX12_judge_26 ⟨Nat.zero_le _, Nat.zero_le _⟩) (fun H locs hw => ?_)
      exact w_iret C hw hr (so2 hf).1 (so2 hf).2 dX12_judge_29
    · replace hf := ite_f hf c4
      refine lv_iload_n hx hb dX12_judge_20 rfl (lv_at hl 0 rfl) ?_
      refine lv_goto (tgt := 29) hx hb dX12_judge_21 (by decide) ?_
      exact w_iret C hw hr (so2 hf).1 (so2 hf).2 dX12_judge_29
  · replace hf := ite_t hf c1
    refine lv_iconst (v := -1) hx hb dX12_judge_7 (by decide) ?_
    exact w_iret C hw hr (so2 hf).1 (so2 hf).2 dX12_judge_8
theorem dX12_whoseCry_0 : decode cX12_whoseCry 0 = .ok (.iload_n 1, 1) := by decide +kernel
theorem dX12_whoseCry_1 : decode cX12_whoseCry 1 = .ok (.invokestatic 168, 3) := by decide +kernel
theorem dX12_whoseCry_4 : decode cX12_whoseCry 4 = .ok (.ifCond .eq 37, 3) := by decide +kernel
theorem dX12_whoseCry_7 : decode cX12_whoseCry 7 = .ok (.iload_n 2, 1) := by decide +kernel
theorem dX12_whoseCry_8 : decode cX12_whoseCry 8 = .ok (.ifCond .lt 33, 3) := by decide +kernel
theorem dX12_whoseCry_11 : decode cX12_whoseCry 11 = .ok (.iload_n 2, 1) := by decide +kernel
theorem dX12_whoseCry_12 : decode cX12_whoseCry 12 = .ok (.bipush 100, 2) := by decide +kernel
theorem dX12_whoseCry_14 : decode cX12_whoseCry 14 = .ok (.idiv, 1) := by decide +kernel
theorem dX12_whoseCry_15 : decode cX12_whoseCry 15 = .ok (.invokestatic 173, 3) := by decide +kernel
theorem dX12_whoseCry_18 : decode cX12_whoseCry 18 = .ok (.ifCond .eq 23, 3) := by decide +kernel
theorem dX12_whoseCry_21 : decode cX12_whoseCry 21 = .ok (.iload_n 2, 1) := by decide +kernel
theorem dX12_whoseCry_22 : decode cX12_whoseCry 22 = .ok (.bipush 10, 2) := by decide +kernel
theorem dX12_whoseCry_24 : decode cX12_whoseCry 24 = .ok (.idiv, 1) := by decide +kernel
theorem dX12_whoseCry_25 : decode cX12_whoseCry 25 = .ok (.bipush 10, 2) := by decide +kernel
theorem dX12_whoseCry_27 : decode cX12_whoseCry 27 = .ok (.irem, 1) := by decide +kernel
theorem dX12_whoseCry_28 : decode cX12_whoseCry 28 = .ok (.iconst 3, 1) := by decide +kernel
theorem dX12_whoseCry_29 : decode cX12_whoseCry 29 = .ok (.if_icmp .gt 12, 3) := by decide +kernel
theorem dX12_whoseCry_32 : decode cX12_whoseCry 32 = .ok (.iload_n 3, 1) := by decide +kernel
theorem dX12_whoseCry_33 : decode cX12_whoseCry 33 = .ok (.iconst 0, 1) := by decide +kernel
theorem dX12_whoseCry_34 : decode cX12_whoseCry 34 = .ok (.iconst 1, 1) := by decide +kernel
theorem dX12_whoseCry_35 : decode cX12_whoseCry 35 = .ok (.invokestatic 147, 3) := by decide +kernel
theorem dX12_whoseCry_38 : decode cX12_whoseCry 38 = .ok (.ifCond .ne 5, 3) := by decide +kernel
theorem dX12_whoseCry_41 : decode cX12_whoseCry 41 = .ok (.iconst (-1), 1) := by decide +kernel
theorem dX12_whoseCry_42 : decode cX12_whoseCry 42 = .ok (.ireturn, 1) := by decide +kernel
theorem dX12_whoseCry_43 : decode cX12_whoseCry 43 = .ok (.aload_n 0, 1) := by decide +kernel
theorem dX12_whoseCry_44 : decode cX12_whoseCry 44 = .ok (.iload_n 1, 1) := by decide +kernel
theorem dX12_whoseCry_45 : decode cX12_whoseCry 45 = .ok (.iconst 0, 1) := by decide +kernel
theorem dX12_whoseCry_46 : decode cX12_whoseCry 46 = .ok (.invokevirtual 377, 3) := by decide +kernel
theorem dX12_whoseCry_49 : decode cX12_whoseCry 49 = .ok (.istore 4, 2) := by decide +kernel
theorem dX12_whoseCry_51 : decode cX12_whoseCry 51 = .ok (.iload 4, 2) := by decide +kernel
theorem dX12_whoseCry_53 : decode cX12_whoseCry 53 = .ok (.ifCond .ge 6, 3) := by decide +kernel
theorem dX12_whoseCry_56 : decode cX12_whoseCry 56 = .ok (.iload 4, 2) := by decide +kernel
theorem dX12_whoseCry_58 : decode cX12_whoseCry 58 = .ok (.ireturn, 1) := by decide +kernel
theorem dX12_whoseCry_59 : decode cX12_whoseCry 59 = .ok (.aload_n 0, 1) := by decide +kernel
theorem dX12_whoseCry_60 : decode cX12_whoseCry 60 = .ok (.getfield 154, 3) := by decide +kernel
theorem dX12_whoseCry_63 : decode cX12_whoseCry 63 = .ok (.bipush 12, 2) := by decide +kernel
theorem dX12_whoseCry_65 : decode cX12_whoseCry 65 = .ok (.if_icmp .ne 6, 3) := by decide +kernel
theorem dX12_whoseCry_68 : decode cX12_whoseCry 68 = .ok (.bipush (-5), 2) := by decide +kernel
theorem dX12_whoseCry_70 : decode cX12_whoseCry 70 = .ok (.ireturn, 1) := by decide +kernel
theorem dX12_whoseCry_71 : decode cX12_whoseCry 71 = .ok (.aload_n 0, 1) := by decide +kernel
theorem dX12_whoseCry_72 : decode cX12_whoseCry 72 = .ok (.iload_n 2, 1) := by decide +kernel
theorem dX12_whoseCry_73 : decode cX12_whoseCry 73 = .ok (.bipush 100, 2) := by decide +kernel
theorem dX12_whoseCry_75 : decode cX12_whoseCry 75 = .ok (.idiv, 1) := by decide +kernel
theorem dX12_whoseCry_76 : decode cX12_whoseCry 76 = .ok (.iconst 0, 1) := by decide +kernel
theorem dX12_whoseCry_77 : decode cX12_whoseCry 77 = .ok (.iload_n 2, 1) := by decide +kernel
theorem dX12_whoseCry_78 : decode cX12_whoseCry 78 = .ok (.bipush 10, 2) := by decide +kernel
theorem dX12_whoseCry_80 : decode cX12_whoseCry 80 = .ok (.idiv, 1) := by decide +kernel
theorem dX12_whoseCry_81 : decode cX12_whoseCry 81 = .ok (.bipush 10, 2) := by decide +kernel
theorem dX12_whoseCry_83 : decode cX12_whoseCry 83 = .ok (.irem, 1) := by decide +kernel
theorem dX12_whoseCry_84 : decode cX12_whoseCry 84 = .ok (.iload_n 2, 1) := by decide +kernel
theorem dX12_whoseCry_85 : decode cX12_whoseCry 85 = .ok (.bipush 10, 2) := by decide +kernel
theorem dX12_whoseCry_87 : decode cX12_whoseCry 87 = .ok (.irem, 1) := by decide +kernel
theorem dX12_whoseCry_88 : decode cX12_whoseCry 88 = .ok (.invokevirtual 176, 3) := by decide +kernel
theorem dX12_whoseCry_91 : decode cX12_whoseCry 91 = .ok (.istore 5, 2) := by decide +kernel
theorem dX12_whoseCry_93 : decode cX12_whoseCry 93 = .ok (.iconst 0, 1) := by decide +kernel
theorem dX12_whoseCry_94 : decode cX12_whoseCry 94 = .ok (.istore 6, 2) := by decide +kernel
theorem dX12_whoseCry_96 : decode cX12_whoseCry 96 = .ok (.bipush (-2), 2) := by decide +kernel
theorem dX12_whoseCry_98 : decode cX12_whoseCry 98 = .ok (.istore 7, 2) := by decide +kernel
theorem dX12_whoseCry_100 : decode cX12_whoseCry 100 = .ok (.iconst 0, 1) := by decide +kernel
theorem dX12_whoseCry_101 : decode cX12_whoseCry 101 = .ok (.istore 8, 2) := by decide +kernel
theorem dX12_whoseCry_103 : decode cX12_whoseCry 103 = .ok (.iload 8, 2) := by decide +kernel
theorem dX12_whoseCry_105 : decode cX12_whoseCry 105 = .ok (.sipush 999, 3) := by decide +kernel
theorem dX12_whoseCry_108 : decode cX12_whoseCry 108 = .ok (.if_icmp .gt 41, 3) := by decide +kernel
theorem dX12_whoseCry_111 : decode cX12_whoseCry 111 = .ok (.aload_n 0, 1) := by decide +kernel
theorem dX12_whoseCry_112 : decode cX12_whoseCry 112 = .ok (.getfield 43, 3) := by decide +kernel
theorem dX12_whoseCry_115 : decode cX12_whoseCry 115 = .ok (.iload 5, 2) := by decide +kernel
theorem dX12_whoseCry_117 : decode cX12_whoseCry 117 = .ok (.iload 8, 2) := by decide +kernel
theorem dX12_whoseCry_119 : decode cX12_whoseCry 119 = .ok (.iastore, 1) := by decide +kernel
theorem dX12_whoseCry_120 : decode cX12_whoseCry 120 = .ok (.aload_n 0, 1) := by decide +kernel
theorem dX12_whoseCry_121 : decode cX12_whoseCry 121 = .ok (.iload_n 1, 1) := by decide +kernel
theorem dX12_whoseCry_122 : decode cX12_whoseCry 122 = .ok (.invokevirtual 395, 3) := by decide +kernel
theorem dX12_whoseCry_125 : decode cX12_whoseCry 125 = .ok (.ifCond .lt 6, 3) := by decide +kernel
theorem dX12_whoseCry_128 : decode cX12_whoseCry 128 = .ok (.goto 15, 3) := by decide +kernel
theorem dX12_whoseCry_131 : decode cX12_whoseCry 131 = .ok (.iload 6, 2) := by decide +kernel
theorem dX12_whoseCry_133 : decode cX12_whoseCry 133 = .ok (.ifCond .ne 7, 3) := by decide +kernel
theorem dX12_whoseCry_136 : decode cX12_whoseCry 136 = .ok (.iload 8, 2) := by decide +kernel
theorem dX12_whoseCry_138 : decode cX12_whoseCry 138 = .ok (.istore 7, 2) := by decide +kernel
theorem dX12_whoseCry_140 : decode cX12_whoseCry 140 = .ok (.iinc 6 1, 3) := by decide +kernel
theorem dX12_whoseCry_143 : decode cX12_whoseCry 143 = .ok (.iinc 8 1, 3) := by decide +kernel
theorem dX12_whoseCry_146 : decode cX12_whoseCry 146 = .ok (.goto (-43), 3) := by decide +kernel
theorem dX12_whoseCry_149 : decode cX12_whoseCry 149 = .ok (.aload_n 0, 1) := by decide +kernel
theorem dX12_whoseCry_150 : decode cX12_whoseCry 150 = .ok (.dup, 1) := by decide +kernel
theorem dX12_whoseCry_151 : decode cX12_whoseCry 151 = .ok (.getfield 154, 3) := by decide +kernel
theorem dX12_whoseCry_154 : decode cX12_whoseCry 154 = .ok (.iconst 1, 1) := by decide +kernel
theorem dX12_whoseCry_155 : decode cX12_whoseCry 155 = .ok (.isub, 1) := by decide +kernel
theorem dX12_whoseCry_156 : decode cX12_whoseCry 156 = .ok (.putfield 154, 3) := by decide +kernel
theorem dX12_whoseCry_159 : decode cX12_whoseCry 159 = .ok (.iload_n 3, 1) := by decide +kernel
theorem dX12_whoseCry_160 : decode cX12_whoseCry 160 = .ok (.ifCond .ne 8, 3) := by decide +kernel
theorem dX12_whoseCry_163 : decode cX12_whoseCry 163 = .ok (.iload 6, 2) := by decide +kernel
theorem dX12_whoseCry_165 : decode cX12_whoseCry 165 = .ok (.goto 5, 3) := by decide +kernel
theorem dX12_whoseCry_168 : decode cX12_whoseCry 168 = .ok (.iload 7, 2) := by decide +kernel
theorem dX12_whoseCry_170 : decode cX12_whoseCry 170 = .ok (.ireturn, 1) := by decide +kernel
theorem ok_yX12_whoseCry : yOk yX12_whoseCry 3 := ⟨by decide +kernel, by decide +kernel, by decide +kernel⟩
def fX12_whoseCry_103 (n : Nat) : Nat → St → Int32 → Int32 → Int32 → Int32 → Int32 → Int32 → Option (Int32 × St)
  | 0, _, _, _, _, _, _, _ => none
  | k + 1, st, v1, v3, v5, v6, v7, v8 => if (999 : Int32) < v8 then (bnd (sI st 0 13 ((gI st 0 13) - (1 : Int32))) (fun st13 => if v3 = 0 then (some (v6, st13)) else (some (v7, st13)))) else (gd (inB v5 13) (bnd (sI st 12 v5.toNatClampNeg v8) (fun st17 => (fX12_wrongYear n st17 v1).bind (fun r19 => if r19.1 < 0 then (if v6 = 0 then (bnd (v6 + (1 : Int32)) (fun x27 => bnd (v8 + (1 : Int32)) (fun x29 => fX12_whoseCry_103 n k r19.2 v1 v3 v5 x27 v8 x29))) else (bnd (v6 + (1 : Int32)) (fun x23 => bnd (v8 + (1 : Int32)) (fun x25 => fX12_whoseCry_103 n k r19.2 v1 v3 v5 x23 v7 x25)))) else (bnd (v8 + (1 : Int32)) (fun x31 => fX12_whoseCry_103 n k r19.2 v1 v3 v5 v6 v7 x31))))))
set_option maxHeartbeats 4000000 in
theorem tX12_whoseCry_103 {p : Program} {l : Launch} {e : Env} {s : State} {m : MethodId} {args : Array Value} {below : List Frame} {meth : Method} {c : Code} {X : WX} (C : Amb 43 X p s m args meth c cX12_whoseCry 9 RX12) (hr : meth.sig.returnType = some .int) {R : Int32 × St} {n : Nat} : ∀ (k : Nat) (st : St) (v1 : Int32) (v3 : Int32) (v5 : Int32) (v6 : Int32) (v7 : Int32) (v8 : Int32) (H : Heap) (locs : List Loc) (ls : Array Slot), Wd EM 43 X s.heap st H locs → lv_has ls 9 [(0, .ref (xq X 0)), (1, .int v1), (3, .int v3), (5, .int v5), (6, .int v6), (7, .int v7), (8, .int v8)] → fX12_whoseCry_103 n k st v1 v3 v5 v6 v7 v8 = some R → W p l e { frames := 7, cells := 0, slots := 0, locals := 167 } s m args below meth c H locs 0 0 (QI EM 43 X R.1 R.2 below args s) (F0 m 103 ls []) := by
  obtain ⟨hx, hb, hml, hown, hts⟩ := id C.1
  intro k
  induction k with
  | zero => intro st v1 v3 v5 v6 v7 v8 H locs ls  hw hl hf; exact absurd (show none = some R from hf) (fun z => by cases z)
  | succ k ih =>
    intro st v1 v3 v5 v6 v7 v8 H locs ls  hw hl hf
    rw [fX12_whoseCry_103] at hf
    refine lv_iload hx hb dX12_whoseCry_103 (lv_at hl 6 rfl) ?_
    refine lv_sipush (v := 999) hx hb dX12_whoseCry_105 (by decide) ?_
    refine lv_icmp_gt (tgt := 149) hx hb dX12_whoseCry_108 (by decide) (fun c12 => ?_) (fun c12 => ?_)
    · replace hf := ite_t hf c12
      refine lv_aload_n hx hb dX12_whoseCry_149 rfl (lv_at hl 0 rfl) ?_
      refine lv_dup hx hb dX12_whoseCry_150 rfl ?_
      refine w_get (T := TX12) C hw (by decide) 13 kf_X12_154 (EM_0 X _ _) rfl inA12 (by decide) rfl dX12_whoseCry_151 ?_
      refine lv_iconst (v := 1) hx hb dX12_whoseCry_154 (by decide) ?_
      refine lv_isub hx hb dX12_whoseCry_155 ?_
      obtain ⟨st13, es14⟩ : ∃ z : St, z = sI st 0 13 ((gI st 0 13) - (1 : Int32)) := ⟨_, rfl⟩
      replace hf := bnd_nm hf es14
      refine w_puti (T := TX12) C hw (by decide) 13 kf_X12_154 (EM_0 X _ _) rfl inA12 tyX12_ok nmX12 (by decide) rfl rfl (Nat.le_of_ble_eq_true rfl) rfl dX12_whoseCry_156 (fun H locs hw => ?_)
      rw [← es14] at hw
      refine lv_iload_n hx hb dX12_whoseCry_159 rfl (lv_at hl 2 rfl) ?_
      refine lv_if_ne (tgt := 168) hx hb dX12_whoseCry_160 (by decide) (fun c15 => ?_) (fun c15 => ?_)
      · replace hf := ite_f hf c15
        refine lv_iload hx hb dX12_whoseCry_168 (lv_at hl 5 rfl) ?_
        exact w_iret C hw hr (so2 hf).1 (so2 hf).2 dX12_whoseCry_170
      · replace hf := ite_t hf c15
        refine lv_iload hx hb dX12_whoseCry_163 (lv_at hl 4 rfl) ?_
        refine lv_goto (tgt := 170) hx hb dX12_whoseCry_165 (by decide) ?_
        exact w_iret C hw hr (so2 hf).1 (so2 hf).2 dX12_whoseCry_170
    · replace hf := ite_f hf c12
      refine lv_aload_n hx hb dX12_whoseCry_111 rfl (lv_at hl 0 rfl) ?_
      refine w_get (T := TX12) C hw (by decide) 15 kf_X12_43 (EM_0 X _ _) rfl inA12 (by decide) rfl dX12_whoseCry_112 ?_
      refine lv_iload hx hb dX12_whoseCry_115 (lv_at hl 3 rfl) ?_
      refine lv_iload hx hb dX12_whoseCry_117 (lv_at hl 6 rfl) ?_
      obtain ⟨h16, hf⟩ := gd_some hf
      obtain ⟨st17, es18⟩ : ∃ z : St, z = sI st 12 v5.toNatClampNeg v8 := ⟨_, rfl⟩
      replace hf := bnd_nm hf es18
      refine w_iast C hw (by decide) (fun f9 => EM_12 X f9 _) h16 rfl dX12_whoseCry_119 (fun H locs hw => ?_)
      rw [← es18] at hw
      refine lv_aload_n hx hb dX12_whoseCry_120 rfl (lv_at hl 0 rfl) ?_
      refine lv_iload_n hx hb dX12_whoseCry_121 rfl (lv_at hl 1 rfl) ?_
      obtain ⟨r19, k20, hf⟩ := bd_some hf
      refine w_goI hw (w_runV (rest := []) C hw (zX12_wrongYear _ _ n st17 v1 r19 k20) (by decide) (EM_0 X _ _) rfl km_X12_395 ki_yX12_wrongYear kv_X12_wrongYear kz_X12 kc_X12_wrongYear rfl ok_yX12_wrongYear ⟨Nat.le_of_ble_eq_true rfl, Nat.le_of_ble_eq_true rfl⟩ rfl rfl rfl rfl hl.1 (Nat.le_of_ble_eq_true rfl) dX12_whoseCry_122 ⟨Nat.zero_le _, Nat.zero_le _⟩) (fun H locs hw => ?_)
      refine lv_if_lt (tgt := 131) hx hb dX12_whoseCry_125 (by decide) (fun c21 => ?_) (fun c21 => ?_)
      · replace hf := ite_t hf c21
        refine lv_iload hx hb dX12_whoseCry_131 (lv_at hl 4 rfl) ?_
        refine lv_if_ne (tgt := 140) hx hb dX12_whoseCry_133 (by decide) (fun c22 => ?_) (fun c22 => ?_)
        · replace hf := ite_f hf c22
          obtain ⟨x23, e24⟩ : ∃ z : Int32, z = v6 + (1 : Int32) := ⟨_, rfl⟩
          replace hf := bnd_nm hf e24
          refine lv_iinc (v := x23) (lv' := [(6, .int x23), (0, .ref (xq X 0)), (1, .int v1), (3, .int v3), (5, .int v5), (7, .int v7), (8, .int v8)]) hx hb dX12_whoseCry_140 hl (k := 4) rfl (by rw [e24]; rfl) (by decide) rfl (fun ls hl => ?_)
          obtain ⟨x25, e26⟩ : ∃ z : Int32, z = v8 + (1 : Int32) := ⟨_, rfl⟩
          replace hf := bnd_nm hf e26
          refine lv_iinc (v := x25) (lv' := [(8, .int x25), (6, .int x23), (0, .ref (xq X 0)), (1, .int v1), (3, .int v3), (5, .int v5), (7, .int v7)]) hx hb dX12_whoseCry_143 hl (k := 6) rfl (by rw [e26]; rfl) (by decide) rfl (fun ls hl => ?_)
          refine lv_goto (tgt := 103) hx hb dX12_whoseCry_146 (by decide) ?_
          exact ih r19.2 v1 v3 v5 x23 v7 x25 _ _ _ hw (lv_sub hl [2, 3, 4, 5, 1, 6, 0] rfl) hf
        · replace hf := ite_t hf c22
          refine lv_iload hx hb dX12_whoseCry_136 (lv_at hl 6 rfl) ?_
          refine lv_istore (lv' := [(7, .int v8), (0, .ref (xq X 0)), (1, .int v1), (3, .int v3), (5, .int v5), (6, .int v6), (8, .int v8)]) hx hb dX12_whoseCry_138 hl (by decide) rfl (fun ls hl => ?_)
          obtain ⟨x27, e28⟩ : ∃ z : Int32, z = v6 + (1 : Int32) := ⟨_, rfl⟩
          replace hf := bnd_nm hf e28
          refine lv_iinc (v := x27) (lv' := [(6, .int x27), (7, .int v8), (0, .ref (xq X 0)), (1, .int v1), (3, .int v3), (5, .int v5), (8, .int v8)]) hx hb dX12_whoseCry_140 hl (k := 5) rfl (by rw [e28]; rfl) (by decide) rfl (fun ls hl => ?_)
          obtain ⟨x29, e30⟩ : ∃ z : Int32, z = v8 + (1 : Int32) := ⟨_, rfl⟩
          replace hf := bnd_nm hf e30
          refine lv_iinc (v := x29) (lv' := [(8, .int x29), (6, .int x27), (7, .int v8), (0, .ref (xq X 0)), (1, .int v1), (3, .int v3), (5, .int v5)]) hx hb dX12_whoseCry_143 hl (k := 6) rfl (by rw [e30]; rfl) (by decide) rfl (fun ls hl => ?_)
          refine lv_goto (tgt := 103) hx hb dX12_whoseCry_146 (by decide) ?_
          exact ih r19.2 v1 v3 v5 x27 v8 x29 _ _ _ hw (lv_sub hl [3, 4, 5, 6, 1, 2, 0] rfl) hf
      · replace hf := ite_f hf c21
        refine lv_goto (tgt := 143) hx hb dX12_whoseCry_128 (by decide) ?_
        obtain ⟨x31, e32⟩ : ∃ z : Int32, z = v8 + (1 : Int32) := ⟨_, rfl⟩
        replace hf := bnd_nm hf e32
        refine lv_iinc (v := x31) (lv' := [(8, .int x31), (0, .ref (xq X 0)), (1, .int v1), (3, .int v3), (5, .int v5), (6, .int v6), (7, .int v7)]) hx hb dX12_whoseCry_143 hl (k := 6) rfl (by rw [e32]; rfl) (by decide) rfl (fun ls hl => ?_)
        refine lv_goto (tgt := 103) hx hb dX12_whoseCry_146 (by decide) ?_
        exact ih r19.2 v1 v3 v5 v6 v7 x31 _ _ _ hw (lv_sub hl [1, 2, 3, 4, 5, 6, 0] rfl) hf
def fX12_whoseCry (n : Nat) (st : St) (a1 : Int32) (a2 : Int32) (a3 : Int32) : Option (Int32 × St) := if bI (fX12_isShelf a1) = 0 then (some ((-1 : Int32), st)) else (if a2 < 0 then (some ((-1 : Int32), st)) else (if bI (fX12_isPerson (a2 / (100 : Int32))) = 0 then (some ((-1 : Int32), st)) else (if (3 : Int32) < rmI (a2 / (10 : Int32)) (10 : Int32) then (some ((-1 : Int32), st)) else (if bI (fX12_in a3 (0 : Int32) (1 : Int32)) = 0 then (some ((-1 : Int32), st)) else ((fX12_rowFault st a1 (0 : Int32)).bind (fun r6 => if 0 ≤ r6 then (if gI st 0 13 = (12 : Int32) then (some ((-5 : Int32), st)) else ((fX12_addCry st (a2 / (100 : Int32)) (0 : Int32) (rmI (a2 / (10 : Int32)) (10 : Int32)) (rmI a2 (10 : Int32))).bind (fun r10 => fX12_whoseCry_103 n n r10.2 a1 a3 r10.1 (0 : Int32) (-2 : Int32) (0 : Int32)))) else (some (r6, st))))))))
set_option maxHeartbeats 4000000 in
theorem zX12_whoseCry (l : Launch) (X : WX) (n : Nat) (st : St) (a1 : Int32) (a2 : Int32) (a3 : Int32) (R : Int32 × St) (hf : fX12_whoseCry n st a1 a2 a3 = some R) : CtI l yX12_whoseCry cX12_whoseCry 9 .int ({ frames := 7, cells := 0, slots := 0, locals := 167 }) EM 43 X [.ref (xq X 0), .int a1, .int a2, .int a3] st R.1 R.2 := by
  refine ct_in (own := RX12) (by decide +kernel) rfl (Nat.le_of_ble_eq_true rfl) (fun p e s m below meth c C hr hw ls hl => ?_)
  obtain ⟨hx, hb, hml, hown, hts⟩ := id C.1
  have hl : lv_has ls 9 [(0, .ref (xq X 0)), (1, .int a1), (2, .int a2), (3, .int a3)] := hl
  unfold fX12_whoseCry at hf
  refine lv_iload_n hx hb dX12_whoseCry_0 rfl (lv_at hl 1 rfl) ?_
  refine w_goI hw (w_runS (rest := []) C hw (zX12_isShelf _ _ st a1) km_X12_168 kt_yX12_isShelf kz_X12 kc_X12_isShelf ok_yX12_isShelf ⟨Nat.le_of_ble_eq_true rfl, Nat.le_of_ble_eq_true rfl⟩ rfl rfl rfl rfl hl.1 (Nat.le_of_ble_eq_true rfl) dX12_whoseCry_1 ⟨Nat.zero_le _, Nat.zero_le _⟩) (fun H locs hw => ?_)
  refine lv_if_eq (tgt := 41) hx hb dX12_whoseCry_4 (by decide) (fun c1 => ?_) (fun c1 => ?_)
  · replace hf := ite_t hf c1
    refine lv_iconst (v := -1) hx hb dX12_whoseCry_41 (by decide) ?_
    exact w_iret C hw hr (so2 hf).1 (so2 hf).2 dX12_whoseCry_42
  · replace hf := ite_f hf c1
    refine lv_iload_n hx hb dX12_whoseCry_7 rfl (lv_at hl 2 rfl) ?_
    refine lv_if_lt (tgt := 41) hx hb dX12_whoseCry_8 (by decide) (fun c2 => ?_) (fun c2 => ?_)
    · replace hf := ite_t hf c2
      refine lv_iconst (v := -1) hx hb dX12_whoseCry_41 (by decide) ?_
      exact w_iret C hw hr (so2 hf).1 (so2 hf).2 dX12_whoseCry_42
    · replace hf := ite_f hf c2
      refine lv_iload_n hx hb dX12_whoseCry_11 rfl (lv_at hl 2 rfl) ?_
      refine lv_bipush (v := 100) hx hb dX12_whoseCry_12 (by decide) ?_
      refine lv_idiv hx hb dX12_whoseCry_14 (by decide) ?_
      refine w_goI hw (w_runS (rest := []) C hw (zX12_isPerson _ _ st (a2 / (100 : Int32))) km_X12_173 kt_yX12_isPerson kz_X12 kc_X12_isPerson ok_yX12_isPerson ⟨Nat.le_of_ble_eq_true rfl, Nat.le_of_ble_eq_true rfl⟩ rfl rfl rfl rfl hl.1 (Nat.le_of_ble_eq_true rfl) dX12_whoseCry_15 ⟨Nat.zero_le _, Nat.zero_le _⟩) (fun H locs hw => ?_)
      refine lv_if_eq (tgt := 41) hx hb dX12_whoseCry_18 (by decide) (fun c3 => ?_) (fun c3 => ?_)
      · replace hf := ite_t hf c3
        refine lv_iconst (v := -1) hx hb dX12_whoseCry_41 (by decide) ?_
        exact w_iret C hw hr (so2 hf).1 (so2 hf).2 dX12_whoseCry_42
      · replace hf := ite_f hf c3
        refine lv_iload_n hx hb dX12_whoseCry_21 rfl (lv_at hl 2 rfl) ?_
        refine lv_bipush (v := 10) hx hb dX12_whoseCry_22 (by decide) ?_
        refine lv_idiv hx hb dX12_whoseCry_24 (by decide) ?_
        refine lv_bipush (v := 10) hx hb dX12_whoseCry_25 (by decide) ?_
        refine w_irem C (by decide) dX12_whoseCry_27 ?_
        refine lv_iconst (v := 3) hx hb dX12_whoseCry_28 (by decide) ?_
        refine lv_icmp_gt (tgt := 41) hx hb dX12_whoseCry_29 (by decide) (fun c4 => ?_) (fun c4 => ?_)
        · replace hf := ite_t hf c4
          refine lv_iconst (v := -1) hx hb dX12_whoseCry_41 (by decide) ?_
          exact w_iret C hw hr (so2 hf).1 (so2 hf).2 dX12_whoseCry_42
        · replace hf := ite_f hf c4
          refine lv_iload_n hx hb dX12_whoseCry_32 rfl (lv_at hl 3 rfl) ?_
          refine lv_iconst (v := 0) hx hb dX12_whoseCry_33 (by decide) ?_
          refine lv_iconst (v := 1) hx hb dX12_whoseCry_34 (by decide) ?_
          refine w_goI hw (w_runS (rest := []) C hw (zX12_in _ _ st a3 (0 : Int32) (1 : Int32)) km_X12_147 kt_yX12_in kz_X12 kc_X12_in ok_yX12_in ⟨Nat.le_of_ble_eq_true rfl, Nat.le_of_ble_eq_true rfl⟩ rfl rfl rfl rfl hl.1 (Nat.le_of_ble_eq_true rfl) dX12_whoseCry_35 ⟨Nat.zero_le _, Nat.zero_le _⟩) (fun H locs hw => ?_)
          refine lv_if_ne (tgt := 43) hx hb dX12_whoseCry_38 (by decide) (fun c5 => ?_) (fun c5 => ?_)
          · replace hf := ite_f hf c5
            refine lv_aload_n hx hb dX12_whoseCry_43 rfl (lv_at hl 0 rfl) ?_
            refine lv_iload_n hx hb dX12_whoseCry_44 rfl (lv_at hl 1 rfl) ?_
            refine lv_iconst (v := 0) hx hb dX12_whoseCry_45 (by decide) ?_
            obtain ⟨r6, k7, hf⟩ := bd_some hf
            refine w_goI hw (w_runV (rest := []) C hw (zX12_rowFault _ _ st a1 (0 : Int32) r6 k7) (by decide) (EM_0 X _ _) rfl km_X12_377 ki_yX12_rowFault kv_X12_rowFault kz_X12 kc_X12_rowFault rfl ok_yX12_rowFault ⟨Nat.le_of_ble_eq_true rfl, Nat.le_of_ble_eq_true rfl⟩ rfl rfl rfl rfl hl.1 (Nat.le_of_ble_eq_true rfl) dX12_whoseCry_46 ⟨Nat.zero_le _, Nat.zero_le _⟩) (fun H locs hw => ?_)
            refine lv_istore (lv' := [(4, .int r6), (0, .ref (xq X 0)), (1, .int a1), (2, .int a2), (3, .int a3)]) hx hb dX12_whoseCry_49 hl (by decide) rfl (fun ls hl => ?_)
            refine lv_iload hx hb dX12_whoseCry_51 (lv_at hl 0 rfl) ?_
            refine lv_if_ge (tgt := 59) hx hb dX12_whoseCry_53 (by decide) (fun c8 => ?_) (fun c8 => ?_)
            · replace hf := ite_t hf c8
              refine lv_aload_n hx hb dX12_whoseCry_59 rfl (lv_at hl 1 rfl) ?_
              refine w_get (T := TX12) C hw (by decide) 13 kf_X12_154 (EM_0 X _ _) rfl inA12 (by decide) rfl dX12_whoseCry_60 ?_
              refine lv_bipush (v := 12) hx hb dX12_whoseCry_63 (by decide) ?_
              refine lv_icmp_ne (tgt := 71) hx hb dX12_whoseCry_65 (by decide) (fun c9 => ?_) (fun c9 => ?_)
              · replace hf := ite_f hf c9
                refine lv_aload_n hx hb dX12_whoseCry_71 rfl (lv_at hl 1 rfl) ?_
                refine lv_iload_n hx hb dX12_whoseCry_72 rfl (lv_at hl 3 rfl) ?_
                refine lv_bipush (v := 100) hx hb dX12_whoseCry_73 (by decide) ?_
                refine lv_idiv hx hb dX12_whoseCry_75 (by decide) ?_
                refine lv_iconst (v := 0) hx hb dX12_whoseCry_76 (by decide) ?_
                refine lv_iload_n hx hb dX12_whoseCry_77 rfl (lv_at hl 3 rfl) ?_
                refine lv_bipush (v := 10) hx hb dX12_whoseCry_78 (by decide) ?_
                refine lv_idiv hx hb dX12_whoseCry_80 (by decide) ?_
                refine lv_bipush (v := 10) hx hb dX12_whoseCry_81 (by decide) ?_
                refine w_irem C (by decide) dX12_whoseCry_83 ?_
                refine lv_iload_n hx hb dX12_whoseCry_84 rfl (lv_at hl 3 rfl) ?_
                refine lv_bipush (v := 10) hx hb dX12_whoseCry_85 (by decide) ?_
                refine w_irem C (by decide) dX12_whoseCry_87 ?_
                obtain ⟨r10, k11, hf⟩ := bd_some hf
                refine w_goI hw (w_runV (rest := []) C hw (zX12_addCry _ _ st (a2 / (100 : Int32)) (0 : Int32) (rmI (a2 / (10 : Int32)) (10 : Int32)) (rmI a2 (10 : Int32)) r10 k11) (by decide) (EM_0 X _ _) rfl km_X12_176 ki_yX12_addCry kv_X12_addCry kz_X12 kc_X12_addCry rfl ok_yX12_addCry ⟨Nat.le_of_ble_eq_true rfl, Nat.le_of_ble_eq_true rfl⟩ rfl rfl rfl rfl hl.1 (Nat.le_of_ble_eq_true rfl) dX12_whoseCry_88 ⟨Nat.zero_le _, Nat.zero_le _⟩) (fun H locs hw => ?_)
                refine lv_istore (lv' := [(5, .int r10.1), (4, .int r6), (0, .ref (xq X 0)), (1, .int a1), (2, .int a2), (3, .int a3)]) hx hb dX12_whoseCry_91 hl (by decide) rfl (fun ls hl => ?_)
                refine lv_iconst (v := 0) hx hb dX12_whoseCry_93 (by decide) ?_
                refine lv_istore (lv' := [(6, .int (0 : Int32)), (5, .int r10.1), (4, .int r6), (0, .ref (xq X 0)), (1, .int a1), (2, .int a2), (3, .int a3)]) hx hb dX12_whoseCry_94 hl (by decide) rfl (fun ls hl => ?_)
                refine lv_bipush (v := -2) hx hb dX12_whoseCry_96 (by decide) ?_
                refine lv_istore (lv' := [(7, .int (-2 : Int32)), (6, .int (0 : Int32)), (5, .int r10.1), (4, .int r6), (0, .ref (xq X 0)), (1, .int a1), (2, .int a2), (3, .int a3)]) hx hb dX12_whoseCry_98 hl (by decide) rfl (fun ls hl => ?_)
                refine lv_iconst (v := 0) hx hb dX12_whoseCry_100 (by decide) ?_
                refine lv_istore (lv' := [(8, .int (0 : Int32)), (7, .int (-2 : Int32)), (6, .int (0 : Int32)), (5, .int r10.1), (4, .int r6), (0, .ref (xq X 0)), (1, .int a1), (2, .int a2), (3, .int a3)]) hx hb dX12_whoseCry_101 hl (by decide) rfl (fun ls hl => ?_)
                exact tX12_whoseCry_103 C hr n r10.2 a1 a3 r10.1 (0 : Int32) (-2 : Int32) (0 : Int32) _ _ _ hw (lv_sub hl [5, 6, 8, 3, 2, 1, 0] rfl) hf
              · replace hf := ite_t hf c9
                refine lv_bipush (v := -5) hx hb dX12_whoseCry_68 (by decide) ?_
                exact w_iret C hw hr (so2 hf).1 (so2 hf).2 dX12_whoseCry_70
            · replace hf := ite_f hf c8
              refine lv_iload hx hb dX12_whoseCry_56 (lv_at hl 0 rfl) ?_
              exact w_iret C hw hr (so2 hf).1 (so2 hf).2 dX12_whoseCry_58
          · replace hf := ite_t hf c5
            refine lv_iconst (v := -1) hx hb dX12_whoseCry_41 (by decide) ?_
            exact w_iret C hw hr (so2 hf).1 (so2 hf).2 dX12_whoseCry_42
theorem dX12_drawn_0 : decode cX12_drawn 0 = .ok (.iload_n 2, 1) := by decide +kernel
theorem dX12_drawn_1 : decode cX12_drawn 1 = .ok (.ifCond .lt 51, 3) := by decide +kernel
theorem dX12_drawn_4 : decode cX12_drawn 4 = .ok (.iload_n 2, 1) := by decide +kernel
theorem dX12_drawn_5 : decode cX12_drawn 5 = .ok (.bipush 100, 2) := by decide +kernel
theorem dX12_drawn_7 : decode cX12_drawn 7 = .ok (.idiv, 1) := by decide +kernel
theorem dX12_drawn_8 : decode cX12_drawn 8 = .ok (.iconst 1, 1) := by decide +kernel
theorem dX12_drawn_9 : decode cX12_drawn 9 = .ok (.bipush 30, 2) := by decide +kernel
theorem dX12_drawn_11 : decode cX12_drawn 11 = .ok (.invokestatic 147, 3) := by decide +kernel
theorem dX12_drawn_14 : decode cX12_drawn 14 = .ok (.ifCond .eq 38, 3) := by decide +kernel
theorem dX12_drawn_17 : decode cX12_drawn 17 = .ok (.iload_n 2, 1) := by decide +kernel
theorem dX12_drawn_18 : decode cX12_drawn 18 = .ok (.bipush 100, 2) := by decide +kernel
theorem dX12_drawn_20 : decode cX12_drawn 20 = .ok (.irem, 1) := by decide +kernel
theorem dX12_drawn_21 : decode cX12_drawn 21 = .ok (.iconst 1, 1) := by decide +kernel
theorem dX12_drawn_22 : decode cX12_drawn 22 = .ok (.bipush 20, 2) := by decide +kernel
theorem dX12_drawn_24 : decode cX12_drawn 24 = .ok (.invokestatic 147, 3) := by decide +kernel
theorem dX12_drawn_27 : decode cX12_drawn 27 = .ok (.ifCond .eq 25, 3) := by decide +kernel
theorem dX12_drawn_30 : decode cX12_drawn 30 = .ok (.iload_n 3, 1) := by decide +kernel
theorem dX12_drawn_31 : decode cX12_drawn 31 = .ok (.iconst 0, 1) := by decide +kernel
theorem dX12_drawn_32 : decode cX12_drawn 32 = .ok (.iconst 1, 1) := by decide +kernel
theorem dX12_drawn_33 : decode cX12_drawn 33 = .ok (.invokestatic 147, 3) := by decide +kernel
theorem dX12_drawn_36 : decode cX12_drawn 36 = .ok (.ifCond .eq 16, 3) := by decide +kernel
theorem dX12_drawn_39 : decode cX12_drawn 39 = .ok (.iload_n 3, 1) := by decide +kernel
theorem dX12_drawn_40 : decode cX12_drawn 40 = .ok (.iconst 1, 1) := by decide +kernel
theorem dX12_drawn_41 : decode cX12_drawn 41 = .ok (.if_icmp .ne 13, 3) := by decide +kernel
theorem dX12_drawn_44 : decode cX12_drawn 44 = .ok (.iload 4, 2) := by decide +kernel
theorem dX12_drawn_46 : decode cX12_drawn 46 = .ok (.invokestatic 173, 3) := by decide +kernel
theorem dX12_drawn_49 : decode cX12_drawn 49 = .ok (.ifCond .ne 5, 3) := by decide +kernel
theorem dX12_drawn_52 : decode cX12_drawn 52 = .ok (.iconst (-1), 1) := by decide +kernel
theorem dX12_drawn_53 : decode cX12_drawn 53 = .ok (.ireturn, 1) := by decide +kernel
theorem dX12_drawn_54 : decode cX12_drawn 54 = .ok (.iload_n 1, 1) := by decide +kernel
theorem dX12_drawn_55 : decode cX12_drawn 55 = .ok (.istore 5, 2) := by decide +kernel
theorem dX12_drawn_57 : decode cX12_drawn 57 = .ok (.iconst 0, 1) := by decide +kernel
theorem dX12_drawn_58 : decode cX12_drawn 58 = .ok (.istore 6, 2) := by decide +kernel
theorem dX12_drawn_60 : decode cX12_drawn 60 = .ok (.iconst 0, 1) := by decide +kernel
theorem dX12_drawn_61 : decode cX12_drawn 61 = .ok (.istore 7, 2) := by decide +kernel
theorem dX12_drawn_63 : decode cX12_drawn 63 = .ok (.iconst 0, 1) := by decide +kernel
theorem dX12_drawn_64 : decode cX12_drawn 64 = .ok (.istore 8, 2) := by decide +kernel
theorem dX12_drawn_66 : decode cX12_drawn 66 = .ok (.iload 8, 2) := by decide +kernel
theorem dX12_drawn_68 : decode cX12_drawn 68 = .ok (.iload_n 2, 1) := by decide +kernel
theorem dX12_drawn_69 : decode cX12_drawn 69 = .ok (.bipush 100, 2) := by decide +kernel
theorem dX12_drawn_71 : decode cX12_drawn 71 = .ok (.idiv, 1) := by decide +kernel
theorem dX12_drawn_72 : decode cX12_drawn 72 = .ok (.iload_n 2, 1) := by decide +kernel
theorem dX12_drawn_73 : decode cX12_drawn 73 = .ok (.bipush 100, 2) := by decide +kernel
theorem dX12_drawn_75 : decode cX12_drawn 75 = .ok (.irem, 1) := by decide +kernel
theorem dX12_drawn_76 : decode cX12_drawn 76 = .ok (.imul, 1) := by decide +kernel
theorem dX12_drawn_77 : decode cX12_drawn 77 = .ok (.if_icmp .ge 144, 3) := by decide +kernel
theorem dX12_drawn_80 : decode cX12_drawn 80 = .ok (.iload 5, 2) := by decide +kernel
theorem dX12_drawn_82 : decode cX12_drawn 82 = .ok (.ldc_w 398, 3) := by decide +kernel
theorem dX12_drawn_85 : decode cX12_drawn 85 = .ok (.imul, 1) := by decide +kernel
theorem dX12_drawn_86 : decode cX12_drawn 86 = .ok (.sipush 12345, 3) := by decide +kernel
theorem dX12_drawn_89 : decode cX12_drawn 89 = .ok (.iadd, 1) := by decide +kernel
theorem dX12_drawn_90 : decode cX12_drawn 90 = .ok (.istore 5, 2) := by decide +kernel
theorem dX12_drawn_92 : decode cX12_drawn 92 = .ok (.aload_n 0, 1) := by decide +kernel
theorem dX12_drawn_93 : decode cX12_drawn 93 = .ok (.getfield 28, 3) := by decide +kernel
theorem dX12_drawn_96 : decode cX12_drawn 96 = .ok (.aload_n 0, 1) := by decide +kernel
theorem dX12_drawn_97 : decode cX12_drawn 97 = .ok (.getfield 151, 3) := by decide +kernel
theorem dX12_drawn_100 : decode cX12_drawn 100 = .ok (.iload 5, 2) := by decide +kernel
theorem dX12_drawn_102 : decode cX12_drawn 102 = .ok (.bipush 8, 2) := by decide +kernel
theorem dX12_drawn_104 : decode cX12_drawn 104 = .ok (.iushr, 1) := by decide +kernel
theorem dX12_drawn_105 : decode cX12_drawn 105 = .ok (.bipush 20, 2) := by decide +kernel
theorem dX12_drawn_107 : decode cX12_drawn 107 = .ok (.irem, 1) := by decide +kernel
theorem dX12_drawn_108 : decode cX12_drawn 108 = .ok (.iastore, 1) := by decide +kernel
theorem dX12_drawn_109 : decode cX12_drawn 109 = .ok (.aload_n 0, 1) := by decide +kernel
theorem dX12_drawn_110 : decode cX12_drawn 110 = .ok (.getfield 31, 3) := by decide +kernel
theorem dX12_drawn_113 : decode cX12_drawn 113 = .ok (.aload_n 0, 1) := by decide +kernel
theorem dX12_drawn_114 : decode cX12_drawn 114 = .ok (.getfield 151, 3) := by decide +kernel
theorem dX12_drawn_117 : decode cX12_drawn 117 = .ok (.iload 5, 2) := by decide +kernel
theorem dX12_drawn_119 : decode cX12_drawn 119 = .ok (.bipush 14, 2) := by decide +kernel
theorem dX12_drawn_121 : decode cX12_drawn 121 = .ok (.iushr, 1) := by decide +kernel
theorem dX12_drawn_122 : decode cX12_drawn 122 = .ok (.bipush 20, 2) := by decide +kernel
theorem dX12_drawn_124 : decode cX12_drawn 124 = .ok (.irem, 1) := by decide +kernel
theorem dX12_drawn_125 : decode cX12_drawn 125 = .ok (.iastore, 1) := by decide +kernel
theorem dX12_drawn_126 : decode cX12_drawn 126 = .ok (.aload_n 0, 1) := by decide +kernel
theorem dX12_drawn_127 : decode cX12_drawn 127 = .ok (.getfield 34, 3) := by decide +kernel
theorem dX12_drawn_130 : decode cX12_drawn 130 = .ok (.aload_n 0, 1) := by decide +kernel
theorem dX12_drawn_131 : decode cX12_drawn 131 = .ok (.getfield 151, 3) := by decide +kernel
theorem dX12_drawn_134 : decode cX12_drawn 134 = .ok (.iload 5, 2) := by decide +kernel
theorem dX12_drawn_136 : decode cX12_drawn 136 = .ok (.bipush 19, 2) := by decide +kernel
theorem dX12_drawn_138 : decode cX12_drawn 138 = .ok (.iushr, 1) := by decide +kernel
theorem dX12_drawn_139 : decode cX12_drawn 139 = .ok (.bipush 60, 2) := by decide +kernel
theorem dX12_drawn_141 : decode cX12_drawn 141 = .ok (.irem, 1) := by decide +kernel
theorem dX12_drawn_142 : decode cX12_drawn 142 = .ok (.iastore, 1) := by decide +kernel
theorem dX12_drawn_143 : decode cX12_drawn 143 = .ok (.aload_n 0, 1) := by decide +kernel
theorem dX12_drawn_144 : decode cX12_drawn 144 = .ok (.getfield 37, 3) := by decide +kernel
theorem dX12_drawn_147 : decode cX12_drawn 147 = .ok (.aload_n 0, 1) := by decide +kernel
theorem dX12_drawn_148 : decode cX12_drawn 148 = .ok (.getfield 151, 3) := by decide +kernel
theorem dX12_drawn_151 : decode cX12_drawn 151 = .ok (.iload 5, 2) := by decide +kernel
theorem dX12_drawn_153 : decode cX12_drawn 153 = .ok (.bipush 27, 2) := by decide +kernel
theorem dX12_drawn_155 : decode cX12_drawn 155 = .ok (.iushr, 1) := by decide +kernel
theorem dX12_drawn_156 : decode cX12_drawn 156 = .ok (.iconst 4, 1) := by decide +kernel
theorem dX12_drawn_157 : decode cX12_drawn 157 = .ok (.irem, 1) := by decide +kernel
theorem dX12_drawn_158 : decode cX12_drawn 158 = .ok (.iastore, 1) := by decide +kernel
theorem dX12_drawn_159 : decode cX12_drawn 159 = .ok (.aload_n 0, 1) := by decide +kernel
theorem dX12_drawn_160 : decode cX12_drawn 160 = .ok (.aload_n 0, 1) := by decide +kernel
theorem dX12_drawn_161 : decode cX12_drawn 161 = .ok (.getfield 151, 3) := by decide +kernel
theorem dX12_drawn_164 : decode cX12_drawn 164 = .ok (.invokevirtual 294, 3) := by decide +kernel
theorem dX12_drawn_167 : decode cX12_drawn 167 = .ok (.istore 9, 2) := by decide +kernel
theorem dX12_drawn_169 : decode cX12_drawn 169 = .ok (.iload 9, 2) := by decide +kernel
theorem dX12_drawn_171 : decode cX12_drawn 171 = .ok (.ifCond .lt 44, 3) := by decide +kernel
theorem dX12_drawn_174 : decode cX12_drawn 174 = .ok (.aload_n 0, 1) := by decide +kernel
theorem dX12_drawn_175 : decode cX12_drawn 175 = .ok (.aload_n 0, 1) := by decide +kernel
theorem dX12_drawn_176 : decode cX12_drawn 176 = .ok (.getfield 151, 3) := by decide +kernel
theorem dX12_drawn_179 : decode cX12_drawn 179 = .ok (.invokevirtual 303, 3) := by decide +kernel
theorem dX12_drawn_182 : decode cX12_drawn 182 = .ok (.ifCond .ne 6, 3) := by decide +kernel
theorem dX12_drawn_185 : decode cX12_drawn 185 = .ok (.goto 30, 3) := by decide +kernel
theorem dX12_drawn_188 : decode cX12_drawn 188 = .ok (.iinc 6 1, 3) := by decide +kernel
theorem dX12_drawn_191 : decode cX12_drawn 191 = .ok (.aload_n 0, 1) := by decide +kernel
theorem dX12_drawn_192 : decode cX12_drawn 192 = .ok (.aload_n 0, 1) := by decide +kernel
theorem dX12_drawn_193 : decode cX12_drawn 193 = .ok (.getfield 151, 3) := by decide +kernel
theorem dX12_drawn_196 : decode cX12_drawn 196 = .ok (.invokevirtual 312, 3) := by decide +kernel
theorem dX12_drawn_199 : decode cX12_drawn 199 = .ok (.istore 10, 2) := by decide +kernel
theorem dX12_drawn_201 : decode cX12_drawn 201 = .ok (.iload 9, 2) := by decide +kernel
theorem dX12_drawn_203 : decode cX12_drawn 203 = .ok (.iload 4, 2) := by decide +kernel
theorem dX12_drawn_205 : decode cX12_drawn 205 = .ok (.if_icmp .ne 10, 3) := by decide +kernel
theorem dX12_drawn_208 : decode cX12_drawn 208 = .ok (.iload 7, 2) := by decide +kernel
theorem dX12_drawn_210 : decode cX12_drawn 210 = .ok (.iload 10, 2) := by decide +kernel
theorem dX12_drawn_212 : decode cX12_drawn 212 = .ok (.iadd, 1) := by decide +kernel
theorem dX12_drawn_213 : decode cX12_drawn 213 = .ok (.istore 7, 2) := by decide +kernel
theorem dX12_drawn_215 : decode cX12_drawn 215 = .ok (.iinc 8 1, 3) := by decide +kernel
theorem dX12_drawn_218 : decode cX12_drawn 218 = .ok (.goto (-152), 3) := by decide +kernel
theorem dX12_drawn_221 : decode cX12_drawn 221 = .ok (.iload_n 3, 1) := by decide +kernel
theorem dX12_drawn_222 : decode cX12_drawn 222 = .ok (.ifCond .ne 8, 3) := by decide +kernel
theorem dX12_drawn_225 : decode cX12_drawn 225 = .ok (.iload 6, 2) := by decide +kernel
theorem dX12_drawn_227 : decode cX12_drawn 227 = .ok (.goto 5, 3) := by decide +kernel
theorem dX12_drawn_230 : decode cX12_drawn 230 = .ok (.iload 7, 2) := by decide +kernel
theorem dX12_drawn_232 : decode cX12_drawn 232 = .ok (.ireturn, 1) := by decide +kernel
theorem ok_yX12_drawn : yOk yX12_drawn 4 := ⟨by decide +kernel, by decide +kernel, by decide +kernel⟩
def fX12_drawn_66 (n : Nat) : Nat → St → Int32 → Int32 → Int32 → Int32 → Int32 → Int32 → Int32 → Option (Int32 × St)
  | 0, _, _, _, _, _, _, _, _ => none
  | k + 1, st, v2, v3, v4, v5, v6, v7, v8 => if (v2 / (100 : Int32)) * (rmI v2 (100 : Int32)) ≤ v8 then (if v3 = 0 then (some (v6, st)) else (some (v7, st))) else (bnd ((v5 * (1103515245 : Int32)) + (12345 : Int32)) (fun x9 => gd (inB (gI st 0 8) 11) (bnd (sI st 7 (gI st 0 8).toNatClampNeg (rmI (usI x9 (8 : Int32)) (20 : Int32))) (fun st12 => gd (inB (gI st12 0 8) 11) (bnd (sI st12 8 (gI st12 0 8).toNatClampNeg (rmI (usI x9 (14 : Int32)) (20 : Int32))) (fun st15 => gd (inB (gI st15 0 8) 11) (bnd (sI st15 9 (gI st15 0 8).toNatClampNeg (rmI (usI x9 (19 : Int32)) (60 : Int32))) (fun st18 => gd (inB (gI st18 0 8) 11) (bnd (sI st18 10 (gI st18 0 8).toNatClampNeg (rmI (usI x9 (27 : Int32)) (4 : Int32))) (fun st21 => (fX12_finder n st21 (gI st21 0 8)).bind (fun r23 => if r23 < 0 then (bnd (v8 + (1 : Int32)) (fun x26 => fX12_drawn_66 n k st21 v2 v3 v4 x9 v6 v7 x26)) else ((fX12_haveIt n st21 (gI st21 0 8)).bind (fun r28 => if r28.1 = 0 then (bnd (v8 + (1 : Int32)) (fun x42 => fX12_drawn_66 n k r28.2 v2 v3 v4 x9 v6 v7 x42)) else (bnd (v6 + (1 : Int32)) (fun x31 => (fX12_oweBy n r28.2 (gI r28.2 0 8)).bind (fun r33 => if r23 = v4 then (bnd (v7 + r33.1) (fun x38 => bnd (v8 + (1 : Int32)) (fun x40 => fX12_drawn_66 n k r33.2 v2 v3 v4 x9 x31 x38 x40))) else (bnd (v8 + (1 : Int32)) (fun x36 => fX12_drawn_66 n k r33.2 v2 v3 v4 x9 x31 v7 x36))))))))))))))))))
set_option maxHeartbeats 4000000 in
theorem tX12_drawn_66 {p : Program} {l : Launch} {e : Env} {s : State} {m : MethodId} {args : Array Value} {below : List Frame} {meth : Method} {c : Code} {X : WX} (C : Amb 43 X p s m args meth c cX12_drawn 11 RX12) (hr : meth.sig.returnType = some .int) {R : Int32 × St} {n : Nat} : ∀ (k : Nat) (st : St) (v2 : Int32) (v3 : Int32) (v4 : Int32) (v5 : Int32) (v6 : Int32) (v7 : Int32) (v8 : Int32) (H : Heap) (locs : List Loc) (ls : Array Slot), Wd EM 43 X s.heap st H locs → lv_has ls 11 [(0, .ref (xq X 0)), (2, .int v2), (3, .int v3), (4, .int v4), (5, .int v5), (6, .int v6), (7, .int v7), (8, .int v8)] → fX12_drawn_66 n k st v2 v3 v4 v5 v6 v7 v8 = some R → W p l e { frames := 6, cells := 0, slots := 0, locals := 146 } s m args below meth c H locs 0 0 (QI EM 43 X R.1 R.2 below args s) (F0 m 66 ls []) := by
  obtain ⟨hx, hb, hml, hown, hts⟩ := id C.1
  intro k
  induction k with
  | zero => intro st v2 v3 v4 v5 v6 v7 v8 H locs ls  hw hl hf; exact absurd (show none = some R from hf) (fun z => by cases z)
  | succ k ih =>
    intro st v2 v3 v4 v5 v6 v7 v8 H locs ls  hw hl hf
    rw [fX12_drawn_66] at hf
    refine lv_iload hx hb dX12_drawn_66 (lv_at hl 7 rfl) ?_
    refine lv_iload_n hx hb dX12_drawn_68 rfl (lv_at hl 1 rfl) ?_
    refine lv_bipush (v := 100) hx hb dX12_drawn_69 (by decide) ?_
    refine lv_idiv hx hb dX12_drawn_71 (by decide) ?_
    refine lv_iload_n hx hb dX12_drawn_72 rfl (lv_at hl 1 rfl) ?_
    refine lv_bipush (v := 100) hx hb dX12_drawn_73 (by decide) ?_
    refine w_irem C (by decide) dX12_drawn_75 ?_
    refine lv_imul hx hb dX12_drawn_76 ?_
    refine lv_icmp_ge (tgt := 221) hx hb dX12_drawn_77 (by decide) (fun c7 => ?_) (fun c7 => ?_)
    · replace hf := ite_t hf c7
      refine lv_iload_n hx hb dX12_drawn_221 rfl (lv_at hl 2 rfl) ?_
      refine lv_if_ne (tgt := 230) hx hb dX12_drawn_222 (by decide) (fun c8 => ?_) (fun c8 => ?_)
      · replace hf := ite_f hf c8
        refine lv_iload hx hb dX12_drawn_230 (lv_at hl 6 rfl) ?_
        exact w_iret C hw hr (so2 hf).1 (so2 hf).2 dX12_drawn_232
      · replace hf := ite_t hf c8
        refine lv_iload hx hb dX12_drawn_225 (lv_at hl 5 rfl) ?_
        refine lv_goto (tgt := 232) hx hb dX12_drawn_227 (by decide) ?_
        exact w_iret C hw hr (so2 hf).1 (so2 hf).2 dX12_drawn_232
    · replace hf := ite_f hf c7
      refine lv_iload hx hb dX12_drawn_80 (lv_at hl 4 rfl) ?_
      refine lv_ldcw (v := 1103515245) hx hb hown (hts _ kn_X12_398) dX12_drawn_82 ?_
      refine lv_imul hx hb dX12_drawn_85 ?_
      refine lv_sipush (v := 12345) hx hb dX12_drawn_86 (by decide) ?_
      refine lv_iadd hx hb dX12_drawn_89 ?_
      refine lv_topi (fun x9 e10 => ?_)
      replace hf := bnd_nm hf e10
      refine lv_istore (lv' := [(5, .int x9), (0, .ref (xq X 0)), (2, .int v2), (3, .int v3), (4, .int v4), (6, .int v6), (7, .int v7), (8, .int v8)]) hx hb dX12_drawn_90 hl (by decide) rfl (fun ls hl => ?_)
      refine lv_aload_n hx hb dX12_drawn_92 rfl (lv_at hl 1 rfl) ?_
      refine w_get (T := TX12) C hw (by decide) 9 kf_X12_28 (EM_0 X _ _) rfl inA12 (by decide) rfl dX12_drawn_93 ?_
      refine lv_aload_n hx hb dX12_drawn_96 rfl (lv_at hl 1 rfl) ?_
      refine w_get (T := TX12) C hw (by decide) 8 kf_X12_151 (EM_0 X _ _) rfl inA12 (by decide) rfl dX12_drawn_97 ?_
      refine lv_iload hx hb dX12_drawn_100 (lv_at hl 0 rfl) ?_
      refine lv_bipush (v := 8) hx hb dX12_drawn_102 (by decide) ?_
      refine lv_iushr (v := usI x9 (8 : Int32)) hx hb dX12_drawn_104 rfl ?_
      refine lv_bipush (v := 20) hx hb dX12_drawn_105 (by decide) ?_
      refine w_irem C (by decide) dX12_drawn_107 ?_
      obtain ⟨h11, hf⟩ := gd_some hf
      obtain ⟨st12, es13⟩ : ∃ z : St, z = sI st 7 (gI st 0 8).toNatClampNeg (rmI (usI x9 (8 : Int32)) (20 : Int32)) := ⟨_, rfl⟩
      replace hf := bnd_nm hf es13
      refine w_iast C hw (by decide) (fun f9 => EM_7 X f9 _) h11 rfl dX12_drawn_108 (fun H locs hw => ?_)
      rw [← es13] at hw
      refine lv_aload_n hx hb dX12_drawn_109 rfl (lv_at hl 1 rfl) ?_
      refine w_get (T := TX12) C hw (by decide) 10 kf_X12_31 (EM_0 X _ _) rfl inA12 (by decide) rfl dX12_drawn_110 ?_
      refine lv_aload_n hx hb dX12_drawn_113 rfl (lv_at hl 1 rfl) ?_
      refine w_get (T := TX12) C hw (by decide) 8 kf_X12_151 (EM_0 X _ _) rfl inA12 (by decide) rfl dX12_drawn_114 ?_
      refine lv_iload hx hb dX12_drawn_117 (lv_at hl 0 rfl) ?_
      refine lv_bipush (v := 14) hx hb dX12_drawn_119 (by decide) ?_
      refine lv_iushr (v := usI x9 (14 : Int32)) hx hb dX12_drawn_121 rfl ?_
      refine lv_bipush (v := 20) hx hb dX12_drawn_122 (by decide) ?_
      refine w_irem C (by decide) dX12_drawn_124 ?_
      obtain ⟨h14, hf⟩ := gd_some hf
      obtain ⟨st15, es16⟩ : ∃ z : St, z = sI st12 8 (gI st12 0 8).toNatClampNeg (rmI (usI x9 (14 : Int32)) (20 : Int32)) := ⟨_, rfl⟩
      replace hf := bnd_nm hf es16
      refine w_iast C hw (by decide) (fun f9 => EM_8 X f9 _) h14 rfl dX12_drawn_125 (fun H locs hw => ?_)
      rw [← es16] at hw
      refine lv_aload_n hx hb dX12_drawn_126 rfl (lv_at hl 1 rfl) ?_
      refine w_get (T := TX12) C hw (by decide) 11 kf_X12_34 (EM_0 X _ _) rfl inA12 (by decide) rfl dX12_drawn_127 ?_
      refine lv_aload_n hx hb dX12_drawn_130 rfl (lv_at hl 1 rfl) ?_
      refine w_get (T := TX12) C hw (by decide) 8 kf_X12_151 (EM_0 X _ _) rfl inA12 (by decide) rfl dX12_drawn_131 ?_
      refine lv_iload hx hb dX12_drawn_134 (lv_at hl 0 rfl) ?_
      refine lv_bipush (v := 19) hx hb dX12_drawn_136 (by decide) ?_
      refine lv_iushr (v := usI x9 (19 : Int32)) hx hb dX12_drawn_138 rfl ?_
      refine lv_bipush (v := 60) hx hb dX12_drawn_139 (by decide) ?_
      refine w_irem C (by decide) dX12_drawn_141 ?_
      obtain ⟨h17, hf⟩ := gd_some hf
      obtain ⟨st18, es19⟩ : ∃ z : St, z = sI st15 9 (gI st15 0 8).toNatClampNeg (rmI (usI x9 (19 : Int32)) (60 : Int32)) := ⟨_, rfl⟩
      replace hf := bnd_nm hf es19
      refine w_iast C hw (by decide) (fun f9 => EM_9 X f9 _) h17 rfl dX12_drawn_142 (fun H locs hw => ?_)
      rw [← es19] at hw
      refine lv_aload_n hx hb dX12_drawn_143 rfl (lv_at hl 1 rfl) ?_
      refine w_get (T := TX12) C hw (by decide) 12 kf_X12_37 (EM_0 X _ _) rfl inA12 (by decide) rfl dX12_drawn_144 ?_
      refine lv_aload_n hx hb dX12_drawn_147 rfl (lv_at hl 1 rfl) ?_
      refine w_get (T := TX12) C hw (by decide) 8 kf_X12_151 (EM_0 X _ _) rfl inA12 (by decide) rfl dX12_drawn_148 ?_
      refine lv_iload hx hb dX12_drawn_151 (lv_at hl 0 rfl) ?_
      refine lv_bipush (v := 27) hx hb dX12_drawn_153 (by decide) ?_
      refine lv_iushr (v := usI x9 (27 : Int32)) hx hb dX12_drawn_155 rfl ?_
      refine lv_iconst (v := 4) hx hb dX12_drawn_156 (by decide) ?_
      refine w_irem C (by decide) dX12_drawn_157 ?_
      obtain ⟨h20, hf⟩ := gd_some hf
      obtain ⟨st21, es22⟩ : ∃ z : St, z = sI st18 10 (gI st18 0 8).toNatClampNeg (rmI (usI x9 (27 : Int32)) (4 : Int32)) := ⟨_, rfl⟩
      replace hf := bnd_nm hf es22
      refine w_iast C hw (by decide) (fun f9 => EM_10 X f9 _) h20 rfl dX12_drawn_158 (fun H locs hw => ?_)
      rw [← es22] at hw
      refine lv_aload_n hx hb dX12_drawn_159 rfl (lv_at hl 1 rfl) ?_
      refine lv_aload_n hx hb dX12_drawn_160 rfl (lv_at hl 1 rfl) ?_
      refine w_get (T := TX12) C hw (by decide) 8 kf_X12_151 (EM_0 X _ _) rfl inA12 (by decide) rfl dX12_drawn_161 ?_
      obtain ⟨r23, k24, hf⟩ := bd_some hf
      refine w_goI hw (w_runV (rest := []) C hw (zX12_finder _ _ n st21 (gI st21 0 8) r23 k24) (by decide) (EM_0 X _ _) rfl km_X12_294 ki_yX12_finder kv_X12_finder kz_X12 kc_X12_finder rfl ok_yX12_finder ⟨Nat.le_of_ble_eq_true rfl, Nat.le_of_ble_eq_true rfl⟩ rfl rfl rfl rfl hl.1 (Nat.le_of_ble_eq_true rfl) dX12_drawn_164 ⟨Nat.zero_le _, Nat.zero_le _⟩) (fun H locs hw => ?_)
      refine lv_istore (lv' := [(9, .int r23), (5, .int x9), (0, .ref (xq X 0)), (2, .int v2), (3, .int v3), (4, .int v4), (6, .int v6), (7, .int v7), (8, .int v8)]) hx hb dX12_drawn_167 hl (by decide) rfl (fun ls hl => ?_)
      refine lv_iload hx hb dX12_drawn_169 (lv_at hl 0 rfl) ?_
      refine lv_if_lt (tgt := 215) hx hb dX12_drawn_171 (by decide) (fun c25 => ?_) (fun c25 => ?_)
      · replace hf := ite_t hf c25
        obtain ⟨x26, e27⟩ : ∃ z : Int32, z = v8 + (1 : Int32) := ⟨_, rfl⟩
        replace hf := bnd_nm hf e27
        refine lv_iinc (v := x26) (lv' := [(8, .int x26), (9, .int r23), (5, .int x9), (0, .ref (xq X 0)), (2, .int v2), (3, .int v3), (4, .int v4), (6, .int v6), (7, .int v7)]) hx hb dX12_drawn_215 hl (k := 8) rfl (by rw [e27]; rfl) (by decide) rfl (fun ls hl => ?_)
        refine lv_goto (tgt := 66) hx hb dX12_drawn_218 (by decide) ?_
        exact ih st21 v2 v3 v4 x9 v6 v7 x26 _ _ _ hw (lv_sub hl [3, 4, 5, 6, 2, 7, 8, 0] rfl) hf
      · replace hf := ite_f hf c25
        refine lv_aload_n hx hb dX12_drawn_174 rfl (lv_at hl 2 rfl) ?_
        refine lv_aload_n hx hb dX12_drawn_175 rfl (lv_at hl 2 rfl) ?_
        refine w_get (T := TX12) C hw (by decide) 8 kf_X12_151 (EM_0 X _ _) rfl inA12 (by decide) rfl dX12_drawn_176 ?_
        obtain ⟨r28, k29, hf⟩ := bd_some hf
        refine w_goI hw (w_runV (rest := []) C hw (zX12_haveIt _ _ n st21 (gI st21 0 8) r28 k29) (by decide) (EM_0 X _ _) rfl km_X12_303 ki_yX12_haveIt kv_X12_haveIt kz_X12 kc_X12_haveIt rfl ok_yX12_haveIt ⟨Nat.le_of_ble_eq_true rfl, Nat.le_of_ble_eq_true rfl⟩ rfl rfl rfl rfl hl.1 (Nat.le_of_ble_eq_true rfl) dX12_drawn_179 ⟨Nat.zero_le _, Nat.zero_le _⟩) (fun H locs hw => ?_)
        refine lv_if_ne (tgt := 188) hx hb dX12_drawn_182 (by decide) (fun c30 => ?_) (fun c30 => ?_)
        · replace hf := ite_f hf c30
          obtain ⟨x31, e32⟩ : ∃ z : Int32, z = v6 + (1 : Int32) := ⟨_, rfl⟩
          replace hf := bnd_nm hf e32
          refine lv_iinc (v := x31) (lv' := [(6, .int x31), (9, .int r23), (5, .int x9), (0, .ref (xq X 0)), (2, .int v2), (3, .int v3), (4, .int v4), (7, .int v7), (8, .int v8)]) hx hb dX12_drawn_188 hl (k := 6) rfl (by rw [e32]; rfl) (by decide) rfl (fun ls hl => ?_)
          refine lv_aload_n hx hb dX12_drawn_191 rfl (lv_at hl 3 rfl) ?_
          refine lv_aload_n hx hb dX12_drawn_192 rfl (lv_at hl 3 rfl) ?_
          refine w_get (T := TX12) C hw (by decide) 8 kf_X12_151 (EM_0 X _ _) rfl inA12 (by decide) rfl dX12_drawn_193 ?_
          obtain ⟨r33, k34, hf⟩ := bd_some hf
          refine w_goI hw (w_runV (rest := []) C hw (zX12_oweBy _ _ n r28.2 (gI r28.2 0 8) r33 k34) (by decide) (EM_0 X _ _) rfl km_X12_312 ki_yX12_oweBy kv_X12_oweBy kz_X12 kc_X12_oweBy rfl ok_yX12_oweBy ⟨Nat.le_of_ble_eq_true rfl, Nat.le_of_ble_eq_true rfl⟩ rfl rfl rfl rfl hl.1 (Nat.le_of_ble_eq_true rfl) dX12_drawn_196 ⟨Nat.zero_le _, Nat.zero_le _⟩) (fun H locs hw => ?_)
          refine lv_istore (lv' := [(10, .int r33.1), (6, .int x31), (9, .int r23), (5, .int x9), (0, .ref (xq X 0)), (2, .int v2), (3, .int v3), (4, .int v4), (7, .int v7), (8, .int v8)]) hx hb dX12_drawn_199 hl (by decide) rfl (fun ls hl => ?_)
          refine lv_iload hx hb dX12_drawn_201 (lv_at hl 2 rfl) ?_
          refine lv_iload hx hb dX12_drawn_203 (lv_at hl 7 rfl) ?_
          refine lv_icmp_ne (tgt := 215) hx hb dX12_drawn_205 (by decide) (fun c35 => ?_) (fun c35 => ?_)
          · replace hf := ite_f hf c35
            obtain ⟨x36, e37⟩ : ∃ z : Int32, z = v8 + (1 : Int32) := ⟨_, rfl⟩
            replace hf := bnd_nm hf e37
            refine lv_iinc (v := x36) (lv' := [(8, .int x36), (10, .int r33.1), (6, .int x31), (9, .int r23), (5, .int x9), (0, .ref (xq X 0)), (2, .int v2), (3, .int v3), (4, .int v4), (7, .int v7)]) hx hb dX12_drawn_215 hl (k := 9) rfl (by rw [e37]; rfl) (by decide) rfl (fun ls hl => ?_)
            refine lv_goto (tgt := 66) hx hb dX12_drawn_218 (by decide) ?_
            exact ih r33.2 v2 v3 v4 x9 x31 v7 x36 _ _ _ hw (lv_sub hl [5, 6, 7, 8, 4, 2, 9, 0] rfl) hf
          · replace hf := ite_t hf c35
            refine lv_iload hx hb dX12_drawn_208 (lv_at hl 8 rfl) ?_
            refine lv_iload hx hb dX12_drawn_210 (lv_at hl 0 rfl) ?_
            refine lv_iadd hx hb dX12_drawn_212 ?_
            refine lv_topi (fun x38 e39 => ?_)
            replace hf := bnd_nm hf e39
            refine lv_istore (lv' := [(7, .int x38), (10, .int r33.1), (6, .int x31), (9, .int r23), (5, .int x9), (0, .ref (xq X 0)), (2, .int v2), (3, .int v3), (4, .int v4), (8, .int v8)]) hx hb dX12_drawn_213 hl (by decide) rfl (fun ls hl => ?_)
            obtain ⟨x40, e41⟩ : ∃ z : Int32, z = v8 + (1 : Int32) := ⟨_, rfl⟩
            replace hf := bnd_nm hf e41
            refine lv_iinc (v := x40) (lv' := [(8, .int x40), (7, .int x38), (10, .int r33.1), (6, .int x31), (9, .int r23), (5, .int x9), (0, .ref (xq X 0)), (2, .int v2), (3, .int v3), (4, .int v4)]) hx hb dX12_drawn_215 hl (k := 9) rfl (by rw [e41]; rfl) (by decide) rfl (fun ls hl => ?_)
            refine lv_goto (tgt := 66) hx hb dX12_drawn_218 (by decide) ?_
            exact ih r33.2 v2 v3 v4 x9 x31 x38 x40 _ _ _ hw (lv_sub hl [6, 7, 8, 9, 5, 3, 1, 0] rfl) hf
        · replace hf := ite_t hf c30
          refine lv_goto (tgt := 215) hx hb dX12_drawn_185 (by decide) ?_
          obtain ⟨x42, e43⟩ : ∃ z : Int32, z = v8 + (1 : Int32) := ⟨_, rfl⟩
          replace hf := bnd_nm hf e43
          refine lv_iinc (v := x42) (lv' := [(8, .int x42), (9, .int r23), (5, .int x9), (0, .ref (xq X 0)), (2, .int v2), (3, .int v3), (4, .int v4), (6, .int v6), (7, .int v7)]) hx hb dX12_drawn_215 hl (k := 8) rfl (by rw [e43]; rfl) (by decide) rfl (fun ls hl => ?_)
          refine lv_goto (tgt := 66) hx hb dX12_drawn_218 (by decide) ?_
          exact ih r28.2 v2 v3 v4 x9 v6 v7 x42 _ _ _ hw (lv_sub hl [3, 4, 5, 6, 2, 7, 8, 0] rfl) hf
def fX12_drawn_54 (n : Nat) (st : St) (v1 : Int32) (v2 : Int32) (v3 : Int32) (v4 : Int32) : Option (Int32 × St) := fX12_drawn_66 n n st v2 v3 v4 v1 (0 : Int32) (0 : Int32) (0 : Int32)
set_option maxHeartbeats 4000000 in
theorem tX12_drawn_54 {p : Program} {l : Launch} {e : Env} {s : State} {m : MethodId} {args : Array Value} {below : List Frame} {meth : Method} {c : Code} {X : WX} (C : Amb 43 X p s m args meth c cX12_drawn 11 RX12) (hr : meth.sig.returnType = some .int) {R : Int32 × St} {n : Nat} : ∀ (st : St) (v1 : Int32) (v2 : Int32) (v3 : Int32) (v4 : Int32) (H : Heap) (locs : List Loc) (ls : Array Slot), Wd EM 43 X s.heap st H locs → lv_has ls 11 [(0, .ref (xq X 0)), (1, .int v1), (2, .int v2), (3, .int v3), (4, .int v4)] → fX12_drawn_54 n st v1 v2 v3 v4 = some R → W p l e { frames := 6, cells := 0, slots := 0, locals := 146 } s m args below meth c H locs 0 0 (QI EM 43 X R.1 R.2 below args s) (F0 m 54 ls []) := by
  obtain ⟨hx, hb, hml, hown, hts⟩ := id C.1
  intro st v1 v2 v3 v4 H locs ls  hw hl hf
  unfold fX12_drawn_54 at hf
  refine lv_iload_n hx hb dX12_drawn_54 rfl (lv_at hl 1 rfl) ?_
  refine lv_istore (lv' := [(5, .int v1), (0, .ref (xq X 0)), (1, .int v1), (2, .int v2), (3, .int v3), (4, .int v4)]) hx hb dX12_drawn_55 hl (by decide) rfl (fun ls hl => ?_)
  refine lv_iconst (v := 0) hx hb dX12_drawn_57 (by decide) ?_
  refine lv_istore (lv' := [(6, .int (0 : Int32)), (5, .int v1), (0, .ref (xq X 0)), (1, .int v1), (2, .int v2), (3, .int v3), (4, .int v4)]) hx hb dX12_drawn_58 hl (by decide) rfl (fun ls hl => ?_)
  refine lv_iconst (v := 0) hx hb dX12_drawn_60 (by decide) ?_
  refine lv_istore (lv' := [(7, .int (0 : Int32)), (6, .int (0 : Int32)), (5, .int v1), (0, .ref (xq X 0)), (1, .int v1), (2, .int v2), (3, .int v3), (4, .int v4)]) hx hb dX12_drawn_61 hl (by decide) rfl (fun ls hl => ?_)
  refine lv_iconst (v := 0) hx hb dX12_drawn_63 (by decide) ?_
  refine lv_istore (lv' := [(8, .int (0 : Int32)), (7, .int (0 : Int32)), (6, .int (0 : Int32)), (5, .int v1), (0, .ref (xq X 0)), (1, .int v1), (2, .int v2), (3, .int v3), (4, .int v4)]) hx hb dX12_drawn_64 hl (by decide) rfl (fun ls hl => ?_)
  exact tX12_drawn_66 C hr n st v2 v3 v4 v1 (0 : Int32) (0 : Int32) (0 : Int32) _ _ _ hw (lv_sub hl [4, 6, 7, 8, 3, 2, 1, 0] rfl) hf
def fX12_drawn (n : Nat) (st : St) (a1 : Int32) (a2 : Int32) (a3 : Int32) (a4 : Int32) : Option (Int32 × St) := if a2 < 0 then (some ((-1 : Int32), st)) else (if bI (fX12_in (a2 / (100 : Int32)) (1 : Int32) (30 : Int32)) = 0 then (some ((-1 : Int32), st)) else (if bI (fX12_in (rmI a2 (100 : Int32)) (1 : Int32) (20 : Int32)) = 0 then (some ((-1 : Int32), st)) else (if bI (fX12_in a3 (0 : Int32) (1 : Int32)) = 0 then (some ((-1 : Int32), st)) else (if a3 = (1 : Int32) then (if bI (fX12_isPerson a4) = 0 then (some ((-1 : Int32), st)) else (fX12_drawn_54 n st a1 a2 a3 a4)) else (fX12_drawn_54 n st a1 a2 a3 a4)))))
set_option maxHeartbeats 4000000 in
theorem zX12_drawn (l : Launch) (X : WX) (n : Nat) (st : St) (a1 : Int32) (a2 : Int32) (a3 : Int32) (a4 : Int32) (R : Int32 × St) (hf : fX12_drawn n st a1 a2 a3 a4 = some R) : CtI l yX12_drawn cX12_drawn 11 .int ({ frames := 6, cells := 0, slots := 0, locals := 146 }) EM 43 X [.ref (xq X 0), .int a1, .int a2, .int a3, .int a4] st R.1 R.2 := by
  refine ct_in (own := RX12) (by decide +kernel) rfl (Nat.le_of_ble_eq_true rfl) (fun p e s m below meth c C hr hw ls hl => ?_)
  obtain ⟨hx, hb, hml, hown, hts⟩ := id C.1
  have hl : lv_has ls 11 [(0, .ref (xq X 0)), (1, .int a1), (2, .int a2), (3, .int a3), (4, .int a4)] := hl
  unfold fX12_drawn at hf
  refine lv_iload_n hx hb dX12_drawn_0 rfl (lv_at hl 2 rfl) ?_
  refine lv_if_lt (tgt := 52) hx hb dX12_drawn_1 (by decide) (fun c1 => ?_) (fun c1 => ?_)
  · replace hf := ite_t hf c1
    refine lv_iconst (v := -1) hx hb dX12_drawn_52 (by decide) ?_
    exact w_iret C hw hr (so2 hf).1 (so2 hf).2 dX12_drawn_53
  · replace hf := ite_f hf c1
    refine lv_iload_n hx hb dX12_drawn_4 rfl (lv_at hl 2 rfl) ?_
    refine lv_bipush (v := 100) hx hb dX12_drawn_5 (by decide) ?_
    refine lv_idiv hx hb dX12_drawn_7 (by decide) ?_
    refine lv_iconst (v := 1) hx hb dX12_drawn_8 (by decide) ?_
    refine lv_bipush (v := 30) hx hb dX12_drawn_9 (by decide) ?_
    refine w_goI hw (w_runS (rest := []) C hw (zX12_in _ _ st (a2 / (100 : Int32)) (1 : Int32) (30 : Int32)) km_X12_147 kt_yX12_in kz_X12 kc_X12_in ok_yX12_in ⟨Nat.le_of_ble_eq_true rfl, Nat.le_of_ble_eq_true rfl⟩ rfl rfl rfl rfl hl.1 (Nat.le_of_ble_eq_true rfl) dX12_drawn_11 ⟨Nat.zero_le _, Nat.zero_le _⟩) (fun H locs hw => ?_)
    refine lv_if_eq (tgt := 52) hx hb dX12_drawn_14 (by decide) (fun c2 => ?_) (fun c2 => ?_)
    · replace hf := ite_t hf c2
      refine lv_iconst (v := -1) hx hb dX12_drawn_52 (by decide) ?_
      exact w_iret C hw hr (so2 hf).1 (so2 hf).2 dX12_drawn_53
    · replace hf := ite_f hf c2
      refine lv_iload_n hx hb dX12_drawn_17 rfl (lv_at hl 2 rfl) ?_
      refine lv_bipush (v := 100) hx hb dX12_drawn_18 (by decide) ?_
      refine w_irem C (by decide) dX12_drawn_20 ?_
      refine lv_iconst (v := 1) hx hb dX12_drawn_21 (by decide) ?_
      refine lv_bipush (v := 20) hx hb dX12_drawn_22 (by decide) ?_
      refine w_goI hw (w_runS (rest := []) C hw (zX12_in _ _ st (rmI a2 (100 : Int32)) (1 : Int32) (20 : Int32)) km_X12_147 kt_yX12_in kz_X12 kc_X12_in ok_yX12_in ⟨Nat.le_of_ble_eq_true rfl, Nat.le_of_ble_eq_true rfl⟩ rfl rfl rfl rfl hl.1 (Nat.le_of_ble_eq_true rfl) dX12_drawn_24 ⟨Nat.zero_le _, Nat.zero_le _⟩) (fun H locs hw => ?_)
      refine lv_if_eq (tgt := 52) hx hb dX12_drawn_27 (by decide) (fun c3 => ?_) (fun c3 => ?_)
      · replace hf := ite_t hf c3
        refine lv_iconst (v := -1) hx hb dX12_drawn_52 (by decide) ?_
        exact w_iret C hw hr (so2 hf).1 (so2 hf).2 dX12_drawn_53
      · replace hf := ite_f hf c3
        refine lv_iload_n hx hb dX12_drawn_30 rfl (lv_at hl 3 rfl) ?_
        refine lv_iconst (v := 0) hx hb dX12_drawn_31 (by decide) ?_
        refine lv_iconst (v := 1) hx hb dX12_drawn_32 (by decide) ?_
        refine w_goI hw (w_runS (rest := []) C hw (zX12_in _ _ st a3 (0 : Int32) (1 : Int32)) km_X12_147 kt_yX12_in kz_X12 kc_X12_in ok_yX12_in ⟨Nat.le_of_ble_eq_true rfl, Nat.le_of_ble_eq_true rfl⟩ rfl rfl rfl rfl hl.1 (Nat.le_of_ble_eq_true rfl) dX12_drawn_33 ⟨Nat.zero_le _, Nat.zero_le _⟩) (fun H locs hw => ?_)
        refine lv_if_eq (tgt := 52) hx hb dX12_drawn_36 (by decide) (fun c4 => ?_) (fun c4 => ?_)
        · replace hf := ite_t hf c4
          refine lv_iconst (v := -1) hx hb dX12_drawn_52 (by decide) ?_
          exact w_iret C hw hr (so2 hf).1 (so2 hf).2 dX12_drawn_53
        · replace hf := ite_f hf c4
          refine lv_iload_n hx hb dX12_drawn_39 rfl (lv_at hl 3 rfl) ?_
          refine lv_iconst (v := 1) hx hb dX12_drawn_40 (by decide) ?_
          refine lv_icmp_ne (tgt := 54) hx hb dX12_drawn_41 (by decide) (fun c5 => ?_) (fun c5 => ?_)
          · replace hf := ite_f hf c5
            exact tX12_drawn_54 C hr st a1 a2 a3 a4 _ _ _ hw (lv_sub hl [0, 1, 2, 3, 4] rfl) hf
          · replace hf := ite_t hf c5
            refine lv_iload hx hb dX12_drawn_44 (lv_at hl 4 rfl) ?_
            refine w_goI hw (w_runS (rest := []) C hw (zX12_isPerson _ _ st a4) km_X12_173 kt_yX12_isPerson kz_X12 kc_X12_isPerson ok_yX12_isPerson ⟨Nat.le_of_ble_eq_true rfl, Nat.le_of_ble_eq_true rfl⟩ rfl rfl rfl rfl hl.1 (Nat.le_of_ble_eq_true rfl) dX12_drawn_46 ⟨Nat.zero_le _, Nat.zero_le _⟩) (fun H locs hw => ?_)
            refine lv_if_ne (tgt := 54) hx hb dX12_drawn_49 (by decide) (fun c6 => ?_) (fun c6 => ?_)
            · replace hf := ite_f hf c6
              exact tX12_drawn_54 C hr st a1 a2 a3 a4 _ _ _ hw (lv_sub hl [0, 1, 2, 3, 4] rfl) hf
            · replace hf := ite_t hf c6
              refine lv_iconst (v := -1) hx hb dX12_drawn_52 (by decide) ?_
              exact w_iret C hw hr (so2 hf).1 (so2 hf).2 dX12_drawn_53
theorem dX12_find_0 : decode cX12_find 0 = .ok (.aload_n 0, 1) := by decide +kernel
theorem dX12_find_1 : decode cX12_find 1 = .ok (.iload_n 1, 1) := by decide +kernel
theorem dX12_find_2 : decode cX12_find 2 = .ok (.invokevirtual 197, 3) := by decide +kernel
theorem dX12_find_5 : decode cX12_find 5 = .ok (.ifCond .ne 5, 3) := by decide +kernel
theorem dX12_find_8 : decode cX12_find 8 = .ok (.iconst (-1), 1) := by decide +kernel
theorem dX12_find_9 : decode cX12_find 9 = .ok (.ireturn, 1) := by decide +kernel
theorem dX12_find_10 : decode cX12_find 10 = .ok (.aload_n 0, 1) := by decide +kernel
theorem dX12_find_11 : decode cX12_find 11 = .ok (.getfield 99, 3) := by decide +kernel
theorem dX12_find_14 : decode cX12_find 14 = .ok (.iload_n 1, 1) := by decide +kernel
theorem dX12_find_15 : decode cX12_find 15 = .ok (.baload, 1) := by decide +kernel
theorem dX12_find_16 : decode cX12_find 16 = .ok (.ifCond .eq 6, 3) := by decide +kernel
theorem dX12_find_19 : decode cX12_find 19 = .ok (.bipush (-5), 2) := by decide +kernel
theorem dX12_find_21 : decode cX12_find 21 = .ok (.ireturn, 1) := by decide +kernel
theorem dX12_find_22 : decode cX12_find 22 = .ok (.iconst 0, 1) := by decide +kernel
theorem dX12_find_23 : decode cX12_find 23 = .ok (.istore_n 2, 1) := by decide +kernel
theorem dX12_find_24 : decode cX12_find 24 = .ok (.iload_n 2, 1) := by decide +kernel
theorem dX12_find_25 : decode cX12_find 25 = .ok (.bipush 36, 2) := by decide +kernel
theorem dX12_find_27 : decode cX12_find 27 = .ok (.if_icmp .ge 16, 3) := by decide +kernel
theorem dX12_find_30 : decode cX12_find 30 = .ok (.aload_n 0, 1) := by decide +kernel
theorem dX12_find_31 : decode cX12_find 31 = .ok (.getfield 90, 3) := by decide +kernel
theorem dX12_find_34 : decode cX12_find 34 = .ok (.iload_n 2, 1) := by decide +kernel
theorem dX12_find_35 : decode cX12_find 35 = .ok (.iconst 0, 1) := by decide +kernel
theorem dX12_find_36 : decode cX12_find 36 = .ok (.iastore, 1) := by decide +kernel
theorem dX12_find_37 : decode cX12_find 37 = .ok (.iinc 2 1, 3) := by decide +kernel
theorem dX12_find_40 : decode cX12_find 40 = .ok (.goto (-16), 3) := by decide +kernel
theorem dX12_find_43 : decode cX12_find 43 = .ok (.aload_n 0, 1) := by decide +kernel
theorem dX12_find_44 : decode cX12_find 44 = .ok (.iload_n 1, 1) := by decide +kernel
theorem dX12_find_45 : decode cX12_find 45 = .ok (.invokevirtual 312, 3) := by decide +kernel
theorem dX12_find_48 : decode cX12_find 48 = .ok (.istore_n 2, 1) := by decide +kernel
theorem dX12_find_49 : decode cX12_find 49 = .ok (.iconst 0, 1) := by decide +kernel
theorem dX12_find_50 : decode cX12_find 50 = .ok (.istore_n 3, 1) := by decide +kernel
theorem dX12_find_51 : decode cX12_find 51 = .ok (.iload_n 3, 1) := by decide +kernel
theorem dX12_find_52 : decode cX12_find 52 = .ok (.bipush 36, 2) := by decide +kernel
theorem dX12_find_54 : decode cX12_find 54 = .ok (.if_icmp .ge 24, 3) := by decide +kernel
theorem dX12_find_57 : decode cX12_find 57 = .ok (.aload_n 0, 1) := by decide +kernel
theorem dX12_find_58 : decode cX12_find 58 = .ok (.getfield 103, 3) := by decide +kernel
theorem dX12_find_61 : decode cX12_find 61 = .ok (.iload_n 3, 1) := by decide +kernel
theorem dX12_find_62 : decode cX12_find 62 = .ok (.dup2, 1) := by decide +kernel
theorem dX12_find_63 : decode cX12_find 63 = .ok (.iaload, 1) := by decide +kernel
theorem dX12_find_64 : decode cX12_find 64 = .ok (.aload_n 0, 1) := by decide +kernel
theorem dX12_find_65 : decode cX12_find 65 = .ok (.getfield 90, 3) := by decide +kernel
theorem dX12_find_68 : decode cX12_find 68 = .ok (.iload_n 3, 1) := by decide +kernel
theorem dX12_find_69 : decode cX12_find 69 = .ok (.iaload, 1) := by decide +kernel
theorem dX12_find_70 : decode cX12_find 70 = .ok (.iadd, 1) := by decide +kernel
theorem dX12_find_71 : decode cX12_find 71 = .ok (.iastore, 1) := by decide +kernel
theorem dX12_find_72 : decode cX12_find 72 = .ok (.iinc 3 1, 3) := by decide +kernel
theorem dX12_find_75 : decode cX12_find 75 = .ok (.goto (-24), 3) := by decide +kernel
theorem dX12_find_78 : decode cX12_find 78 = .ok (.aload_n 0, 1) := by decide +kernel
theorem dX12_find_79 : decode cX12_find 79 = .ok (.getfield 99, 3) := by decide +kernel
theorem dX12_find_82 : decode cX12_find 82 = .ok (.iload_n 1, 1) := by decide +kernel
theorem dX12_find_83 : decode cX12_find 83 = .ok (.iconst 1, 1) := by decide +kernel
theorem dX12_find_84 : decode cX12_find 84 = .ok (.bastore, 1) := by decide +kernel
theorem dX12_find_85 : decode cX12_find 85 = .ok (.aload_n 0, 1) := by decide +kernel
theorem dX12_find_86 : decode cX12_find 86 = .ok (.getfield 106, 3) := by decide +kernel
theorem dX12_find_89 : decode cX12_find 89 = .ok (.iconst 0, 1) := by decide +kernel
theorem dX12_find_90 : decode cX12_find 90 = .ok (.dup2, 1) := by decide +kernel
theorem dX12_find_91 : decode cX12_find 91 = .ok (.iaload, 1) := by decide +kernel
theorem dX12_find_92 : decode cX12_find 92 = .ok (.iconst 1, 1) := by decide +kernel
theorem dX12_find_93 : decode cX12_find 93 = .ok (.iadd, 1) := by decide +kernel
theorem dX12_find_94 : decode cX12_find 94 = .ok (.iastore, 1) := by decide +kernel
theorem dX12_find_95 : decode cX12_find 95 = .ok (.iload_n 2, 1) := by decide +kernel
theorem dX12_find_96 : decode cX12_find 96 = .ok (.ireturn, 1) := by decide +kernel
theorem ok_yX12_find : yOk yX12_find 1 := ⟨by decide +kernel, by decide +kernel, by decide +kernel⟩
def fX12_find_51 (n : Nat) : Nat → St → Int32 → Int32 → Int32 → Option (Int32 × St)
  | 0, _, _, _, _ => none
  | k + 1, st, v1, v2, v3 => if (36 : Int32) ≤ v3 then (gd (inB v1 11) (bnd (sI st 30 v1.toNatClampNeg (vp_nar .boolean (1 : Int32))) (fun st14 => bnd (sI st14 32 0 ((gI st14 32 0) + (1 : Int32))) (fun st16 => some (v2, st16))))) else (gd (inB v3 36) (gd (inB v3 36) (gd (inB v3 36) (bnd (sI st 31 v3.toNatClampNeg ((gI st 31 v3.toNatClampNeg) + (gI st 27 v3.toNatClampNeg))) (fun st21 => bnd (v3 + (1 : Int32)) (fun x23 => fX12_find_51 n k st21 v1 v2 x23))))))
set_option maxHeartbeats 4000000 in
theorem tX12_find_51 {p : Program} {l : Launch} {e : Env} {s : State} {m : MethodId} {args : Array Value} {below : List Frame} {meth : Method} {c : Code} {X : WX} (C : Amb 43 X p s m args meth c cX12_find 4 RX12) (hr : meth.sig.returnType = some .int) {R : Int32 × St} {n : Nat} : ∀ (k : Nat) (st : St) (v1 : Int32) (v2 : Int32) (v3 : Int32) (H : Heap) (locs : List Loc) (ls : Array Slot), Wd EM 43 X s.heap st H locs → lv_has ls 4 [(0, .ref (xq X 0)), (1, .int v1), (2, .int v2), (3, .int v3)] → fX12_find_51 n k st v1 v2 v3 = some R → W p l e { frames := 6, cells := 0, slots := 0, locals := 146 } s m args below meth c H locs 0 0 (QI EM 43 X R.1 R.2 below args s) (F0 m 51 ls []) := by
  obtain ⟨hx, hb, hml, hown, hts⟩ := id C.1
  intro k
  induction k with
  | zero => intro st v1 v2 v3 H locs ls  hw hl hf; exact absurd (show none = some R from hf) (fun z => by cases z)
  | succ k ih =>
    intro st v1 v2 v3 H locs ls  hw hl hf
    rw [fX12_find_51] at hf
    refine lv_iload_n hx hb dX12_find_51 rfl (lv_at hl 3 rfl) ?_
    refine lv_bipush (v := 36) hx hb dX12_find_52 (by decide) ?_
    refine lv_icmp_ge (tgt := 78) hx hb dX12_find_54 (by decide) (fun c12 => ?_) (fun c12 => ?_)
    · replace hf := ite_t hf c12
      refine lv_aload_n hx hb dX12_find_78 rfl (lv_at hl 0 rfl) ?_
      refine w_get (T := TX12) C hw (by decide) 41 kf_X12_99 (EM_0 X _ _) rfl inA12 (by decide) rfl dX12_find_79 ?_
      refine lv_iload_n hx hb dX12_find_82 rfl (lv_at hl 1 rfl) ?_
      refine lv_iconst (v := 1) hx hb dX12_find_83 (by decide) ?_
      obtain ⟨h13, hf⟩ := gd_some hf
      obtain ⟨st14, es15⟩ : ∃ z : St, z = sI st 30 v1.toNatClampNeg (vp_nar .boolean (1 : Int32)) := ⟨_, rfl⟩
      replace hf := bnd_nm hf es15
      refine w_zast C hw (by decide) (fun f9 => EM_30 X f9 _) h13 rfl dX12_find_84 (fun H locs hw => ?_)
      rw [← es15] at hw
      refine lv_aload_n hx hb dX12_find_85 rfl (lv_at hl 0 rfl) ?_
      refine w_get (T := TX12) C hw (by decide) 43 kf_X12_106 (EM_0 X _ _) rfl inA12 (by decide) rfl dX12_find_86 ?_
      refine lv_iconst (v := 0) hx hb dX12_find_89 (by decide) ?_
      refine lv_dup2_11 hx hb dX12_find_90 rfl rfl ?_
      refine w_iald C hw (by decide) (EM_32 X _ _) (by decide) (show (0 : Int32).toNatClampNeg = 0 by decide) dX12_find_91 ?_
      refine lv_iconst (v := 1) hx hb dX12_find_92 (by decide) ?_
      refine lv_iadd hx hb dX12_find_93 ?_
      obtain ⟨st16, es17⟩ : ∃ z : St, z = sI st14 32 0 ((gI st14 32 0) + (1 : Int32)) := ⟨_, rfl⟩
      replace hf := bnd_nm hf es17
      refine w_iast C hw (by decide) (fun f9 => EM_32 X f9 _) (by decide) (show (0 : Int32).toNatClampNeg = 0 by decide) dX12_find_94 (fun H locs hw => ?_)
      rw [← es17] at hw
      refine lv_iload_n hx hb dX12_find_95 rfl (lv_at hl 2 rfl) ?_
      exact w_iret C hw hr (so2 hf).1 (so2 hf).2 dX12_find_96
    · replace hf := ite_f hf c12
      refine lv_aload_n hx hb dX12_find_57 rfl (lv_at hl 0 rfl) ?_
      refine w_get (T := TX12) C hw (by decide) 42 kf_X12_103 (EM_0 X _ _) rfl inA12 (by decide) rfl dX12_find_58 ?_
      refine lv_iload_n hx hb dX12_find_61 rfl (lv_at hl 3 rfl) ?_
      refine lv_dup2_11 hx hb dX12_find_62 rfl rfl ?_
      obtain ⟨h18, hf⟩ := gd_some hf
      refine w_iald C hw (by decide) (EM_31 X _ _) h18 rfl dX12_find_63 ?_
      refine lv_aload_n hx hb dX12_find_64 rfl (lv_at hl 0 rfl) ?_
      refine w_get (T := TX12) C hw (by decide) 38 kf_X12_90 (EM_0 X _ _) rfl inA12 (by decide) rfl dX12_find_65 ?_
      refine lv_iload_n hx hb dX12_find_68 rfl (lv_at hl 3 rfl) ?_
      obtain ⟨h19, hf⟩ := gd_some hf
      refine w_iald C hw (by decide) (EM_27 X _ _) h19 rfl dX12_find_69 ?_
      refine lv_iadd hx hb dX12_find_70 ?_
      obtain ⟨h20, hf⟩ := gd_some hf
      obtain ⟨st21, es22⟩ : ∃ z : St, z = sI st 31 v3.toNatClampNeg ((gI st 31 v3.toNatClampNeg) + (gI st 27 v3.toNatClampNeg)) := ⟨_, rfl⟩
      replace hf := bnd_nm hf es22
      refine w_iast C hw (by decide) (fun f9 => EM_31 X f9 _) h20 rfl dX12_find_71 (fun H locs hw => ?_)
      rw [← es22] at hw
      obtain ⟨x23, e24⟩ : ∃ z : Int32, z = v3 + (1 : Int32) := ⟨_, rfl⟩
      replace hf := bnd_nm hf e24
      refine lv_iinc (v := x23) (lv' := [(3, .int x23), (0, .ref (xq X 0)), (1, .int v1), (2, .int v2)]) hx hb dX12_find_72 hl (k := 3) rfl (by rw [e24]; rfl) (by decide) rfl (fun ls hl => ?_)
      refine lv_goto (tgt := 51) hx hb dX12_find_75 (by decide) ?_
      exact ih st21 v1 v2 x23 _ _ _ hw (lv_sub hl [1, 2, 3, 0] rfl) hf
def fX12_find_24 (n : Nat) : Nat → St → Int32 → Int32 → Option (Int32 × St)
  | 0, _, _, _ => none
  | k + 1, st, v1, v2 => if (36 : Int32) ≤ v2 then ((fX12_oweBy n st v1).bind (fun r5 => fX12_find_51 n n r5.2 v1 r5.1 (0 : Int32))) else (gd (inB v2 36) (bnd (sI st 27 v2.toNatClampNeg (0 : Int32)) (fun st8 => bnd (v2 + (1 : Int32)) (fun x10 => fX12_find_24 n k st8 v1 x10))))
set_option maxHeartbeats 4000000 in
theorem tX12_find_24 {p : Program} {l : Launch} {e : Env} {s : State} {m : MethodId} {args : Array Value} {below : List Frame} {meth : Method} {c : Code} {X : WX} (C : Amb 43 X p s m args meth c cX12_find 4 RX12) (hr : meth.sig.returnType = some .int) {R : Int32 × St} {n : Nat} : ∀ (k : Nat) (st : St) (v1 : Int32) (v2 : Int32) (H : Heap) (locs : List Loc) (ls : Array Slot), Wd EM 43 X s.heap st H locs → lv_has ls 4 [(0, .ref (xq X 0)), (1, .int v1), (2, .int v2)] → fX12_find_24 n k st v1 v2 = some R → W p l e { frames := 6, cells := 0, slots := 0, locals := 146 } s m args below meth c H locs 0 0 (QI EM 43 X R.1 R.2 below args s) (F0 m 24 ls []) := by
  obtain ⟨hx, hb, hml, hown, hts⟩ := id C.1
  intro k
  induction k with
  | zero => intro st v1 v2 H locs ls  hw hl hf; exact absurd (show none = some R from hf) (fun z => by cases z)
  | succ k ih =>
    intro st v1 v2 H locs ls  hw hl hf
    rw [fX12_find_24] at hf
    refine lv_iload_n hx hb dX12_find_24 rfl (lv_at hl 2 rfl) ?_
    refine lv_bipush (v := 36) hx hb dX12_find_25 (by decide) ?_
    refine lv_icmp_ge (tgt := 43) hx hb dX12_find_27 (by decide) (fun c4 => ?_) (fun c4 => ?_)
    · replace hf := ite_t hf c4
      refine lv_aload_n hx hb dX12_find_43 rfl (lv_at hl 0 rfl) ?_
      refine lv_iload_n hx hb dX12_find_44 rfl (lv_at hl 1 rfl) ?_
      obtain ⟨r5, k6, hf⟩ := bd_some hf
      refine w_goI hw (w_runV (rest := []) C hw (zX12_oweBy _ _ n st v1 r5 k6) (by decide) (EM_0 X _ _) rfl km_X12_312 ki_yX12_oweBy kv_X12_oweBy kz_X12 kc_X12_oweBy rfl ok_yX12_oweBy ⟨Nat.le_of_ble_eq_true rfl, Nat.le_of_ble_eq_true rfl⟩ rfl rfl rfl rfl hl.1 (Nat.le_of_ble_eq_true rfl) dX12_find_45 ⟨Nat.zero_le _, Nat.zero_le _⟩) (fun H locs hw => ?_)
      refine lv_istore_n (lv' := [(2, .int r5.1), (0, .ref (xq X 0)), (1, .int v1)]) hx hb dX12_find_48 rfl hl (by decide) rfl (fun ls hl => ?_)
      refine lv_iconst (v := 0) hx hb dX12_find_49 (by decide) ?_
      refine lv_istore_n (lv' := [(3, .int (0 : Int32)), (2, .int r5.1), (0, .ref (xq X 0)), (1, .int v1)]) hx hb dX12_find_50 rfl hl (by decide) rfl (fun ls hl => ?_)
      exact tX12_find_51 C hr n r5.2 v1 r5.1 (0 : Int32) _ _ _ hw (lv_sub hl [2, 3, 1, 0] rfl) hf
    · replace hf := ite_f hf c4
      refine lv_aload_n hx hb dX12_find_30 rfl (lv_at hl 0 rfl) ?_
      refine w_get (T := TX12) C hw (by decide) 38 kf_X12_90 (EM_0 X _ _) rfl inA12 (by decide) rfl dX12_find_31 ?_
      refine lv_iload_n hx hb dX12_find_34 rfl (lv_at hl 2 rfl) ?_
      refine lv_iconst (v := 0) hx hb dX12_find_35 (by decide) ?_
      obtain ⟨h7, hf⟩ := gd_some hf
      obtain ⟨st8, es9⟩ : ∃ z : St, z = sI st 27 v2.toNatClampNeg (0 : Int32) := ⟨_, rfl⟩
      replace hf := bnd_nm hf es9
      refine w_iast C hw (by decide) (fun f9 => EM_27 X f9 _) h7 rfl dX12_find_36 (fun H locs hw => ?_)
      rw [← es9] at hw
      obtain ⟨x10, e11⟩ : ∃ z : Int32, z = v2 + (1 : Int32) := ⟨_, rfl⟩
      replace hf := bnd_nm hf e11
      refine lv_iinc (v := x10) (lv' := [(2, .int x10), (0, .ref (xq X 0)), (1, .int v1)]) hx hb dX12_find_37 hl (k := 2) rfl (by rw [e11]; rfl) (by decide) rfl (fun ls hl => ?_)
      refine lv_goto (tgt := 24) hx hb dX12_find_40 (by decide) ?_
      exact ih st8 v1 x10 _ _ _ hw (lv_sub hl [1, 2, 0] rfl) hf
def fX12_find (n : Nat) (st : St) (a1 : Int32) : Option (Int32 × St) := if bI (fX12_isFall st a1) = 0 then (some ((-1 : Int32), st)) else (gd (inB a1 11) (if gI st 30 a1.toNatClampNeg = 0 then (fX12_find_24 n n st a1 (0 : Int32)) else (some ((-5 : Int32), st))))
set_option maxHeartbeats 4000000 in
theorem zX12_find (l : Launch) (X : WX) (n : Nat) (st : St) (a1 : Int32) (R : Int32 × St) (hf : fX12_find n st a1 = some R) : CtI l yX12_find cX12_find 4 .int ({ frames := 6, cells := 0, slots := 0, locals := 146 }) EM 43 X [.ref (xq X 0), .int a1] st R.1 R.2 := by
  refine ct_in (own := RX12) (by decide +kernel) rfl (Nat.le_of_ble_eq_true rfl) (fun p e s m below meth c C hr hw ls hl => ?_)
  obtain ⟨hx, hb, hml, hown, hts⟩ := id C.1
  have hl : lv_has ls 4 [(0, .ref (xq X 0)), (1, .int a1)] := hl
  unfold fX12_find at hf
  refine lv_aload_n hx hb dX12_find_0 rfl (lv_at hl 0 rfl) ?_
  refine lv_iload_n hx hb dX12_find_1 rfl (lv_at hl 1 rfl) ?_
  refine w_goI hw (w_runV (rest := []) C hw (zX12_isFall _ _ st a1) (by decide) (EM_0 X _ _) rfl km_X12_197 ki_yX12_isFall kv_X12_isFall kz_X12 kc_X12_isFall rfl ok_yX12_isFall ⟨Nat.le_of_ble_eq_true rfl, Nat.le_of_ble_eq_true rfl⟩ rfl rfl rfl rfl hl.1 (Nat.le_of_ble_eq_true rfl) dX12_find_2 ⟨Nat.zero_le _, Nat.zero_le _⟩) (fun H locs hw => ?_)
  refine lv_if_ne (tgt := 10) hx hb dX12_find_5 (by decide) (fun c1 => ?_) (fun c1 => ?_)
  · replace hf := ite_f hf c1
    refine lv_aload_n hx hb dX12_find_10 rfl (lv_at hl 0 rfl) ?_
    refine w_get (T := TX12) C hw (by decide) 41 kf_X12_99 (EM_0 X _ _) rfl inA12 (by decide) rfl dX12_find_11 ?_
    refine lv_iload_n hx hb dX12_find_14 rfl (lv_at hl 1 rfl) ?_
    obtain ⟨h2, hf⟩ := gd_some hf
    refine w_zald C hw (by decide) (EM_30 X _ _) h2 rfl dX12_find_15 ?_
    refine lv_if_eq (tgt := 22) hx hb dX12_find_16 (by decide) (fun c3 => ?_) (fun c3 => ?_)
    · replace hf := ite_t hf c3
      refine lv_iconst (v := 0) hx hb dX12_find_22 (by decide) ?_
      refine lv_istore_n (lv' := [(2, .int (0 : Int32)), (0, .ref (xq X 0)), (1, .int a1)]) hx hb dX12_find_23 rfl hl (by decide) rfl (fun ls hl => ?_)
      exact tX12_find_24 C hr n st a1 (0 : Int32) _ _ _ hw (lv_sub hl [1, 2, 0] rfl) hf
    · replace hf := ite_f hf c3
      refine lv_bipush (v := -5) hx hb dX12_find_19 (by decide) ?_
      exact w_iret C hw hr (so2 hf).1 (so2 hf).2 dX12_find_21
  · replace hf := ite_t hf c1
    refine lv_iconst (v := -1) hx hb dX12_find_8 (by decide) ?_
    exact w_iret C hw hr (so2 hf).1 (so2 hf).2 dX12_find_9
theorem dX12_pay_0 : decode cX12_pay 0 = .ok (.iload_n 1, 1) := by decide +kernel
theorem dX12_pay_1 : decode cX12_pay 1 = .ok (.invokestatic 318, 3) := by decide +kernel
theorem dX12_pay_4 : decode cX12_pay 4 = .ok (.ifCond .eq 25, 3) := by decide +kernel
theorem dX12_pay_7 : decode cX12_pay 7 = .ok (.iload_n 1, 1) := by decide +kernel
theorem dX12_pay_8 : decode cX12_pay 8 = .ok (.bipush 10, 2) := by decide +kernel
theorem dX12_pay_10 : decode cX12_pay 10 = .ok (.idiv, 1) := by decide +kernel
theorem dX12_pay_11 : decode cX12_pay 11 = .ok (.iload_n 1, 1) := by decide +kernel
theorem dX12_pay_12 : decode cX12_pay 12 = .ok (.bipush 10, 2) := by decide +kernel
theorem dX12_pay_14 : decode cX12_pay 14 = .ok (.irem, 1) := by decide +kernel
theorem dX12_pay_15 : decode cX12_pay 15 = .ok (.if_icmp .eq 14, 3) := by decide +kernel
theorem dX12_pay_18 : decode cX12_pay 18 = .ok (.iload_n 2, 1) := by decide +kernel
theorem dX12_pay_19 : decode cX12_pay 19 = .ok (.iconst 1, 1) := by decide +kernel
theorem dX12_pay_20 : decode cX12_pay 20 = .ok (.sipush 999, 3) := by decide +kernel
theorem dX12_pay_23 : decode cX12_pay 23 = .ok (.invokestatic 147, 3) := by decide +kernel
theorem dX12_pay_26 : decode cX12_pay 26 = .ok (.ifCond .ne 5, 3) := by decide +kernel
theorem dX12_pay_29 : decode cX12_pay 29 = .ok (.iconst (-1), 1) := by decide +kernel
theorem dX12_pay_30 : decode cX12_pay 30 = .ok (.ireturn, 1) := by decide +kernel
theorem dX12_pay_31 : decode cX12_pay 31 = .ok (.bipush 6, 2) := by decide +kernel
theorem dX12_pay_33 : decode cX12_pay 33 = .ok (.iload_n 1, 1) := by decide +kernel
theorem dX12_pay_34 : decode cX12_pay 34 = .ok (.bipush 10, 2) := by decide +kernel
theorem dX12_pay_36 : decode cX12_pay 36 = .ok (.idiv, 1) := by decide +kernel
theorem dX12_pay_37 : decode cX12_pay 37 = .ok (.imul, 1) := by decide +kernel
theorem dX12_pay_38 : decode cX12_pay 38 = .ok (.iload_n 1, 1) := by decide +kernel
theorem dX12_pay_39 : decode cX12_pay 39 = .ok (.bipush 10, 2) := by decide +kernel
theorem dX12_pay_41 : decode cX12_pay 41 = .ok (.irem, 1) := by decide +kernel
theorem dX12_pay_42 : decode cX12_pay 42 = .ok (.iadd, 1) := by decide +kernel
theorem dX12_pay_43 : decode cX12_pay 43 = .ok (.istore_n 3, 1) := by decide +kernel
theorem dX12_pay_44 : decode cX12_pay 44 = .ok (.aload_n 0, 1) := by decide +kernel
theorem dX12_pay_45 : decode cX12_pay 45 = .ok (.getfield 103, 3) := by decide +kernel
theorem dX12_pay_48 : decode cX12_pay 48 = .ok (.iload_n 3, 1) := by decide +kernel
theorem dX12_pay_49 : decode cX12_pay 49 = .ok (.iaload, 1) := by decide +kernel
theorem dX12_pay_50 : decode cX12_pay 50 = .ok (.iload_n 2, 1) := by decide +kernel
theorem dX12_pay_51 : decode cX12_pay 51 = .ok (.if_icmp .ge 6, 3) := by decide +kernel
theorem dX12_pay_54 : decode cX12_pay 54 = .ok (.bipush (-5), 2) := by decide +kernel
theorem dX12_pay_56 : decode cX12_pay 56 = .ok (.ireturn, 1) := by decide +kernel
theorem dX12_pay_57 : decode cX12_pay 57 = .ok (.aload_n 0, 1) := by decide +kernel
theorem dX12_pay_58 : decode cX12_pay 58 = .ok (.getfield 103, 3) := by decide +kernel
theorem dX12_pay_61 : decode cX12_pay 61 = .ok (.iload_n 3, 1) := by decide +kernel
theorem dX12_pay_62 : decode cX12_pay 62 = .ok (.dup2, 1) := by decide +kernel
theorem dX12_pay_63 : decode cX12_pay 63 = .ok (.iaload, 1) := by decide +kernel
theorem dX12_pay_64 : decode cX12_pay 64 = .ok (.iload_n 2, 1) := by decide +kernel
theorem dX12_pay_65 : decode cX12_pay 65 = .ok (.isub, 1) := by decide +kernel
theorem dX12_pay_66 : decode cX12_pay 66 = .ok (.iastore, 1) := by decide +kernel
theorem dX12_pay_67 : decode cX12_pay 67 = .ok (.aload_n 0, 1) := by decide +kernel
theorem dX12_pay_68 : decode cX12_pay 68 = .ok (.getfield 106, 3) := by decide +kernel
theorem dX12_pay_71 : decode cX12_pay 71 = .ok (.iconst 1, 1) := by decide +kernel
theorem dX12_pay_72 : decode cX12_pay 72 = .ok (.dup2, 1) := by decide +kernel
theorem dX12_pay_73 : decode cX12_pay 73 = .ok (.iaload, 1) := by decide +kernel
theorem dX12_pay_74 : decode cX12_pay 74 = .ok (.iconst 1, 1) := by decide +kernel
theorem dX12_pay_75 : decode cX12_pay 75 = .ok (.iadd, 1) := by decide +kernel
theorem dX12_pay_76 : decode cX12_pay 76 = .ok (.iastore, 1) := by decide +kernel
theorem dX12_pay_77 : decode cX12_pay 77 = .ok (.aload_n 0, 1) := by decide +kernel
theorem dX12_pay_78 : decode cX12_pay 78 = .ok (.getfield 106, 3) := by decide +kernel
theorem dX12_pay_81 : decode cX12_pay 81 = .ok (.iconst 2, 1) := by decide +kernel
theorem dX12_pay_82 : decode cX12_pay 82 = .ok (.dup2, 1) := by decide +kernel
theorem dX12_pay_83 : decode cX12_pay 83 = .ok (.iaload, 1) := by decide +kernel
theorem dX12_pay_84 : decode cX12_pay 84 = .ok (.iload_n 2, 1) := by decide +kernel
theorem dX12_pay_85 : decode cX12_pay 85 = .ok (.iadd, 1) := by decide +kernel
theorem dX12_pay_86 : decode cX12_pay 86 = .ok (.iastore, 1) := by decide +kernel
theorem dX12_pay_87 : decode cX12_pay 87 = .ok (.aload_n 0, 1) := by decide +kernel
theorem dX12_pay_88 : decode cX12_pay 88 = .ok (.getfield 103, 3) := by decide +kernel
theorem dX12_pay_91 : decode cX12_pay 91 = .ok (.iload_n 3, 1) := by decide +kernel
theorem dX12_pay_92 : decode cX12_pay 92 = .ok (.iaload, 1) := by decide +kernel
theorem dX12_pay_93 : decode cX12_pay 93 = .ok (.ireturn, 1) := by decide +kernel
theorem ok_yX12_pay : yOk yX12_pay 2 := ⟨by decide +kernel, by decide +kernel, by decide +kernel⟩
def fX12_pay (st : St) (a1 : Int32) (a2 : Int32) : Option (Int32 × St) := if bI (fX12_areTwo a1) = 0 then (some ((-1 : Int32), st)) else (if a1 / (10 : Int32) = rmI a1 (10 : Int32) then (some ((-1 : Int32), st)) else (if bI (fX12_in a2 (1 : Int32) (999 : Int32)) = 0 then (some ((-1 : Int32), st)) else (bnd (((6 : Int32) * (a1 / (10 : Int32))) + (rmI a1 (10 : Int32))) (fun x4 => gd (inB x4 36) (if a2 ≤ gI st 31 x4.toNatClampNeg then (gd (inB x4 36) (gd (inB x4 36) (bnd (sI st 31 x4.toNatClampNeg ((gI st 31 x4.toNatClampNeg) - a2)) (fun st10 => bnd (sI st10 32 1 ((gI st10 32 1) + (1 : Int32))) (fun st12 => bnd (sI st12 32 2 ((gI st12 32 2) + a2)) (fun st14 => gd (inB x4 36) (some ((gI st14 31 x4.toNatClampNeg), st14)))))))) else (some ((-5 : Int32), st)))))))
set_option maxHeartbeats 4000000 in
theorem zX12_pay (l : Launch) (X : WX) (st : St) (a1 : Int32) (a2 : Int32) (R : Int32 × St) (hf : fX12_pay st a1 a2 = some R) : CtI l yX12_pay cX12_pay 4 .int ({ frames := 3, cells := 0, slots := 0, locals := 62 }) EM 43 X [.ref (xq X 0), .int a1, .int a2] st R.1 R.2 := by
  refine ct_in (own := RX12) (by decide +kernel) rfl (Nat.le_of_ble_eq_true rfl) (fun p e s m below meth c C hr hw ls hl => ?_)
  obtain ⟨hx, hb, hml, hown, hts⟩ := id C.1
  have hl : lv_has ls 4 [(0, .ref (xq X 0)), (1, .int a1), (2, .int a2)] := hl
  unfold fX12_pay at hf
  refine lv_iload_n hx hb dX12_pay_0 rfl (lv_at hl 1 rfl) ?_
  refine w_goI hw (w_runS (rest := []) C hw (zX12_areTwo _ _ st a1) km_X12_318 kt_yX12_areTwo kz_X12 kc_X12_areTwo ok_yX12_areTwo ⟨Nat.le_of_ble_eq_true rfl, Nat.le_of_ble_eq_true rfl⟩ rfl rfl rfl rfl hl.1 (Nat.le_of_ble_eq_true rfl) dX12_pay_1 ⟨Nat.zero_le _, Nat.zero_le _⟩) (fun H locs hw => ?_)
  refine lv_if_eq (tgt := 29) hx hb dX12_pay_4 (by decide) (fun c1 => ?_) (fun c1 => ?_)
  · replace hf := ite_t hf c1
    refine lv_iconst (v := -1) hx hb dX12_pay_29 (by decide) ?_
    exact w_iret C hw hr (so2 hf).1 (so2 hf).2 dX12_pay_30
  · replace hf := ite_f hf c1
    refine lv_iload_n hx hb dX12_pay_7 rfl (lv_at hl 1 rfl) ?_
    refine lv_bipush (v := 10) hx hb dX12_pay_8 (by decide) ?_
    refine lv_idiv hx hb dX12_pay_10 (by decide) ?_
    refine lv_iload_n hx hb dX12_pay_11 rfl (lv_at hl 1 rfl) ?_
    refine lv_bipush (v := 10) hx hb dX12_pay_12 (by decide) ?_
    refine w_irem C (by decide) dX12_pay_14 ?_
    refine lv_icmp_eq (tgt := 29) hx hb dX12_pay_15 (by decide) (fun c2 => ?_) (fun c2 => ?_)
    · replace hf := ite_t hf c2
      refine lv_iconst (v := -1) hx hb dX12_pay_29 (by decide) ?_
      exact w_iret C hw hr (so2 hf).1 (so2 hf).2 dX12_pay_30
    · replace hf := ite_f hf c2
      refine lv_iload_n hx hb dX12_pay_18 rfl (lv_at hl 2 rfl) ?_
      refine lv_iconst (v := 1) hx hb dX12_pay_19 (by decide) ?_
      refine lv_sipush (v := 999) hx hb dX12_pay_20 (by decide) ?_
      refine w_goI hw (w_runS (rest := []) C hw (zX12_in _ _ st a2 (1 : Int32) (999 : Int32)) km_X12_147 kt_yX12_in kz_X12 kc_X12_in ok_yX12_in ⟨Nat.le_of_ble_eq_true rfl, Nat.le_of_ble_eq_true rfl⟩ rfl rfl rfl rfl hl.1 (Nat.le_of_ble_eq_true rfl) dX12_pay_23 ⟨Nat.zero_le _, Nat.zero_le _⟩) (fun H locs hw => ?_)
      refine lv_if_ne (tgt := 31) hx hb dX12_pay_26 (by decide) (fun c3 => ?_) (fun c3 => ?_)
      · replace hf := ite_f hf c3
        refine lv_bipush (v := 6) hx hb dX12_pay_31 (by decide) ?_
        refine lv_iload_n hx hb dX12_pay_33 rfl (lv_at hl 1 rfl) ?_
        refine lv_bipush (v := 10) hx hb dX12_pay_34 (by decide) ?_
        refine lv_idiv hx hb dX12_pay_36 (by decide) ?_
        refine lv_imul hx hb dX12_pay_37 ?_
        refine lv_iload_n hx hb dX12_pay_38 rfl (lv_at hl 1 rfl) ?_
        refine lv_bipush (v := 10) hx hb dX12_pay_39 (by decide) ?_
        refine w_irem C (by decide) dX12_pay_41 ?_
        refine lv_iadd hx hb dX12_pay_42 ?_
        refine lv_topi (fun x4 e5 => ?_)
        replace hf := bnd_nm hf e5
        refine lv_istore_n (lv' := [(3, .int x4), (0, .ref (xq X 0)), (1, .int a1), (2, .int a2)]) hx hb dX12_pay_43 rfl hl (by decide) rfl (fun ls hl => ?_)
        refine lv_aload_n hx hb dX12_pay_44 rfl (lv_at hl 1 rfl) ?_
        refine w_get (T := TX12) C hw (by decide) 42 kf_X12_103 (EM_0 X _ _) rfl inA12 (by decide) rfl dX12_pay_45 ?_
        refine lv_iload_n hx hb dX12_pay_48 rfl (lv_at hl 0 rfl) ?_
        obtain ⟨h6, hf⟩ := gd_some hf
        refine w_iald C hw (by decide) (EM_31 X _ _) h6 rfl dX12_pay_49 ?_
        refine lv_iload_n hx hb dX12_pay_50 rfl (lv_at hl 3 rfl) ?_
        refine lv_icmp_ge (tgt := 57) hx hb dX12_pay_51 (by decide) (fun c7 => ?_) (fun c7 => ?_)
        · replace hf := ite_t hf c7
          refine lv_aload_n hx hb dX12_pay_57 rfl (lv_at hl 1 rfl) ?_
          refine w_get (T := TX12) C hw (by decide) 42 kf_X12_103 (EM_0 X _ _) rfl inA12 (by decide) rfl dX12_pay_58 ?_
          refine lv_iload_n hx hb dX12_pay_61 rfl (lv_at hl 0 rfl) ?_
          refine lv_dup2_11 hx hb dX12_pay_62 rfl rfl ?_
          obtain ⟨h8, hf⟩ := gd_some hf
          refine w_iald C hw (by decide) (EM_31 X _ _) h8 rfl dX12_pay_63 ?_
          refine lv_iload_n hx hb dX12_pay_64 rfl (lv_at hl 3 rfl) ?_
          refine lv_isub hx hb dX12_pay_65 ?_
          obtain ⟨h9, hf⟩ := gd_some hf
          obtain ⟨st10, es11⟩ : ∃ z : St, z = sI st 31 x4.toNatClampNeg ((gI st 31 x4.toNatClampNeg) - a2) := ⟨_, rfl⟩
          replace hf := bnd_nm hf es11
          refine w_iast C hw (by decide) (fun f9 => EM_31 X f9 _) h9 rfl dX12_pay_66 (fun H locs hw => ?_)
          rw [← es11] at hw
          refine lv_aload_n hx hb dX12_pay_67 rfl (lv_at hl 1 rfl) ?_
          refine w_get (T := TX12) C hw (by decide) 43 kf_X12_106 (EM_0 X _ _) rfl inA12 (by decide) rfl dX12_pay_68 ?_
          refine lv_iconst (v := 1) hx hb dX12_pay_71 (by decide) ?_
          refine lv_dup2_11 hx hb dX12_pay_72 rfl rfl ?_
          refine w_iald C hw (by decide) (EM_32 X _ _) (by decide) (show (1 : Int32).toNatClampNeg = 1 by decide) dX12_pay_73 ?_
          refine lv_iconst (v := 1) hx hb dX12_pay_74 (by decide) ?_
          refine lv_iadd hx hb dX12_pay_75 ?_
          obtain ⟨st12, es13⟩ : ∃ z : St, z = sI st10 32 1 ((gI st10 32 1) + (1 : Int32)) := ⟨_, rfl⟩
          replace hf := bnd_nm hf es13
          refine w_iast C hw (by decide) (fun f9 => EM_32 X f9 _) (by decide) (show (1 : Int32).toNatClampNeg = 1 by decide) dX12_pay_76 (fun H locs hw => ?_)
          rw [← es13] at hw
          refine lv_aload_n hx hb dX12_pay_77 rfl (lv_at hl 1 rfl) ?_
          refine w_get (T := TX12) C hw (by decide) 43 kf_X12_106 (EM_0 X _ _) rfl inA12 (by decide) rfl dX12_pay_78 ?_
          refine lv_iconst (v := 2) hx hb dX12_pay_81 (by decide) ?_
          refine lv_dup2_11 hx hb dX12_pay_82 rfl rfl ?_
          refine w_iald C hw (by decide) (EM_32 X _ _) (by decide) (show (2 : Int32).toNatClampNeg = 2 by decide) dX12_pay_83 ?_
          refine lv_iload_n hx hb dX12_pay_84 rfl (lv_at hl 3 rfl) ?_
          refine lv_iadd hx hb dX12_pay_85 ?_
          obtain ⟨st14, es15⟩ : ∃ z : St, z = sI st12 32 2 ((gI st12 32 2) + a2) := ⟨_, rfl⟩
          replace hf := bnd_nm hf es15
          refine w_iast C hw (by decide) (fun f9 => EM_32 X f9 _) (by decide) (show (2 : Int32).toNatClampNeg = 2 by decide) dX12_pay_86 (fun H locs hw => ?_)
          rw [← es15] at hw
          refine lv_aload_n hx hb dX12_pay_87 rfl (lv_at hl 1 rfl) ?_
          refine w_get (T := TX12) C hw (by decide) 42 kf_X12_103 (EM_0 X _ _) rfl inA12 (by decide) rfl dX12_pay_88 ?_
          refine lv_iload_n hx hb dX12_pay_91 rfl (lv_at hl 0 rfl) ?_
          obtain ⟨h16, hf⟩ := gd_some hf
          refine w_iald C hw (by decide) (EM_31 X _ _) h16 rfl dX12_pay_92 ?_
          exact w_iret C hw hr (so2 hf).1 (so2 hf).2 dX12_pay_93
        · replace hf := ite_f hf c7
          refine lv_bipush (v := -5) hx hb dX12_pay_54 (by decide) ?_
          exact w_iret C hw hr (so2 hf).1 (so2 hf).2 dX12_pay_56
      · replace hf := ite_t hf c3
        refine lv_iconst (v := -1) hx hb dX12_pay_29 (by decide) ?_
        exact w_iret C hw hr (so2 hf).1 (so2 hf).2 dX12_pay_30
theorem dX12_give_0 : decode cX12_give 0 = .ok (.aload_n 0, 1) := by decide +kernel
theorem dX12_give_1 : decode cX12_give 1 = .ok (.iload_n 1, 1) := by decide +kernel
theorem dX12_give_2 : decode cX12_give 2 = .ok (.invokevirtual 194, 3) := by decide +kernel
theorem dX12_give_5 : decode cX12_give 5 = .ok (.ifCond .eq 12, 3) := by decide +kernel
theorem dX12_give_8 : decode cX12_give 8 = .ok (.iload_n 2, 1) := by decide +kernel
theorem dX12_give_9 : decode cX12_give 9 = .ok (.iconst (-1), 1) := by decide +kernel
theorem dX12_give_10 : decode cX12_give 10 = .ok (.iconst 5, 1) := by decide +kernel
theorem dX12_give_11 : decode cX12_give 11 = .ok (.invokestatic 147, 3) := by decide +kernel
theorem dX12_give_14 : decode cX12_give 14 = .ok (.ifCond .ne 6, 3) := by decide +kernel
theorem dX12_give_17 : decode cX12_give 17 = .ok (.ldc 213, 2) := by decide +kernel
theorem dX12_give_19 : decode cX12_give 19 = .ok (.ireturn, 1) := by decide +kernel
theorem dX12_give_20 : decode cX12_give 20 = .ok (.aload_n 0, 1) := by decide +kernel
theorem dX12_give_21 : decode cX12_give 21 = .ok (.getfield 22, 3) := by decide +kernel
theorem dX12_give_24 : decode cX12_give 24 = .ok (.iload_n 1, 1) := by decide +kernel
theorem dX12_give_25 : decode cX12_give 25 = .ok (.iaload, 1) := by decide +kernel
theorem dX12_give_26 : decode cX12_give 26 = .ok (.istore_n 3, 1) := by decide +kernel
theorem dX12_give_27 : decode cX12_give 27 = .ok (.aload_n 0, 1) := by decide +kernel
theorem dX12_give_28 : decode cX12_give 28 = .ok (.getfield 22, 3) := by decide +kernel
theorem dX12_give_31 : decode cX12_give 31 = .ok (.iload_n 1, 1) := by decide +kernel
theorem dX12_give_32 : decode cX12_give 32 = .ok (.iload_n 2, 1) := by decide +kernel
theorem dX12_give_33 : decode cX12_give 33 = .ok (.iastore, 1) := by decide +kernel
theorem dX12_give_34 : decode cX12_give 34 = .ok (.aload_n 0, 1) := by decide +kernel
theorem dX12_give_35 : decode cX12_give 35 = .ok (.getfield 106, 3) := by decide +kernel
theorem dX12_give_38 : decode cX12_give 38 = .ok (.iconst 3, 1) := by decide +kernel
theorem dX12_give_39 : decode cX12_give 39 = .ok (.dup2, 1) := by decide +kernel
theorem dX12_give_40 : decode cX12_give 40 = .ok (.iaload, 1) := by decide +kernel
theorem dX12_give_41 : decode cX12_give 41 = .ok (.iconst 1, 1) := by decide +kernel
theorem dX12_give_42 : decode cX12_give 42 = .ok (.iadd, 1) := by decide +kernel
theorem dX12_give_43 : decode cX12_give 43 = .ok (.iastore, 1) := by decide +kernel
theorem dX12_give_44 : decode cX12_give 44 = .ok (.iload_n 3, 1) := by decide +kernel
theorem dX12_give_45 : decode cX12_give 45 = .ok (.ireturn, 1) := by decide +kernel
theorem ok_yX12_give : yOk yX12_give 2 := ⟨by decide +kernel, by decide +kernel, by decide +kernel⟩
def fX12_give (st : St) (a1 : Int32) (a2 : Int32) : Option (Int32 × St) := if bI (fX12_isField st a1) = 0 then (some ((-2000000000 : Int32), st)) else (if bI (fX12_in a2 (-1 : Int32) (5 : Int32)) = 0 then (some ((-2000000000 : Int32), st)) else (gd (inB a1 8) (bnd (gI st 5 a1.toNatClampNeg) (fun x4 => gd (inB a1 8) (bnd (sI st 5 a1.toNatClampNeg a2) (fun st7 => bnd (sI st7 32 3 ((gI st7 32 3) + (1 : Int32))) (fun st9 => some (x4, st9))))))))
set_option maxHeartbeats 4000000 in
theorem zX12_give (l : Launch) (X : WX) (st : St) (a1 : Int32) (a2 : Int32) (R : Int32 × St) (hf : fX12_give st a1 a2 = some R) : CtI l yX12_give cX12_give 4 .int ({ frames := 2, cells := 0, slots := 0, locals := 43 }) EM 43 X [.ref (xq X 0), .int a1, .int a2] st R.1 R.2 := by
  refine ct_in (own := RX12) (by decide +kernel) rfl (Nat.le_of_ble_eq_true rfl) (fun p e s m below meth c C hr hw ls hl => ?_)
  obtain ⟨hx, hb, hml, hown, hts⟩ := id C.1
  have hl : lv_has ls 4 [(0, .ref (xq X 0)), (1, .int a1), (2, .int a2)] := hl
  unfold fX12_give at hf
  refine lv_aload_n hx hb dX12_give_0 rfl (lv_at hl 0 rfl) ?_
  refine lv_iload_n hx hb dX12_give_1 rfl (lv_at hl 1 rfl) ?_
  refine w_goI hw (w_runV (rest := []) C hw (zX12_isField _ _ st a1) (by decide) (EM_0 X _ _) rfl km_X12_194 ki_yX12_isField kv_X12_isField kz_X12 kc_X12_isField rfl ok_yX12_isField ⟨Nat.le_of_ble_eq_true rfl, Nat.le_of_ble_eq_true rfl⟩ rfl rfl rfl rfl hl.1 (Nat.le_of_ble_eq_true rfl) dX12_give_2 ⟨Nat.zero_le _, Nat.zero_le _⟩) (fun H locs hw => ?_)
  refine lv_if_eq (tgt := 17) hx hb dX12_give_5 (by decide) (fun c1 => ?_) (fun c1 => ?_)
  · replace hf := ite_t hf c1
    refine lv_ldc (v := -2000000000) hx hb hown (hts _ kn_X12_213) dX12_give_17 ?_
    exact w_iret C hw hr (so2 hf).1 (so2 hf).2 dX12_give_19
  · replace hf := ite_f hf c1
    refine lv_iload_n hx hb dX12_give_8 rfl (lv_at hl 2 rfl) ?_
    refine lv_iconst (v := -1) hx hb dX12_give_9 (by decide) ?_
    refine lv_iconst (v := 5) hx hb dX12_give_10 (by decide) ?_
    refine w_goI hw (w_runS (rest := []) C hw (zX12_in _ _ st a2 (-1 : Int32) (5 : Int32)) km_X12_147 kt_yX12_in kz_X12 kc_X12_in ok_yX12_in ⟨Nat.le_of_ble_eq_true rfl, Nat.le_of_ble_eq_true rfl⟩ rfl rfl rfl rfl hl.1 (Nat.le_of_ble_eq_true rfl) dX12_give_11 ⟨Nat.zero_le _, Nat.zero_le _⟩) (fun H locs hw => ?_)
    refine lv_if_ne (tgt := 20) hx hb dX12_give_14 (by decide) (fun c2 => ?_) (fun c2 => ?_)
    · replace hf := ite_f hf c2
      refine lv_aload_n hx hb dX12_give_20 rfl (lv_at hl 0 rfl) ?_
      refine w_get (T := TX12) C hw (by decide) 6 kf_X12_22 (EM_0 X _ _) rfl inA12 (by decide) rfl dX12_give_21 ?_
      refine lv_iload_n hx hb dX12_give_24 rfl (lv_at hl 1 rfl) ?_
      obtain ⟨h3, hf⟩ := gd_some hf
      refine w_iald C hw (by decide) (EM_5 X _ _) h3 rfl dX12_give_25 ?_
      refine lv_topi (fun x4 e5 => ?_)
      replace hf := bnd_nm hf e5
      refine lv_istore_n (lv' := [(3, .int x4), (0, .ref (xq X 0)), (1, .int a1), (2, .int a2)]) hx hb dX12_give_26 rfl hl (by decide) rfl (fun ls hl => ?_)
      refine lv_aload_n hx hb dX12_give_27 rfl (lv_at hl 1 rfl) ?_
      refine w_get (T := TX12) C hw (by decide) 6 kf_X12_22 (EM_0 X _ _) rfl inA12 (by decide) rfl dX12_give_28 ?_
      refine lv_iload_n hx hb dX12_give_31 rfl (lv_at hl 2 rfl) ?_
      refine lv_iload_n hx hb dX12_give_32 rfl (lv_at hl 3 rfl) ?_
      obtain ⟨h6, hf⟩ := gd_some hf
      obtain ⟨st7, es8⟩ : ∃ z : St, z = sI st 5 a1.toNatClampNeg a2 := ⟨_, rfl⟩
      replace hf := bnd_nm hf es8
      refine w_iast C hw (by decide) (fun f9 => EM_5 X f9 _) h6 rfl dX12_give_33 (fun H locs hw => ?_)
      rw [← es8] at hw
      refine lv_aload_n hx hb dX12_give_34 rfl (lv_at hl 1 rfl) ?_
      refine w_get (T := TX12) C hw (by decide) 43 kf_X12_106 (EM_0 X _ _) rfl inA12 (by decide) rfl dX12_give_35 ?_
      refine lv_iconst (v := 3) hx hb dX12_give_38 (by decide) ?_
      refine lv_dup2_11 hx hb dX12_give_39 rfl rfl ?_
      refine w_iald C hw (by decide) (EM_32 X _ _) (by decide) (show (3 : Int32).toNatClampNeg = 3 by decide) dX12_give_40 ?_
      refine lv_iconst (v := 1) hx hb dX12_give_41 (by decide) ?_
      refine lv_iadd hx hb dX12_give_42 ?_
      obtain ⟨st9, es10⟩ : ∃ z : St, z = sI st7 32 3 ((gI st7 32 3) + (1 : Int32)) := ⟨_, rfl⟩
      replace hf := bnd_nm hf es10
      refine w_iast C hw (by decide) (fun f9 => EM_32 X f9 _) (by decide) (show (3 : Int32).toNatClampNeg = 3 by decide) dX12_give_43 (fun H locs hw => ?_)
      rw [← es10] at hw
      refine lv_iload_n hx hb dX12_give_44 rfl (lv_at hl 0 rfl) ?_
      exact w_iret C hw hr (so2 hf).1 (so2 hf).2 dX12_give_45
    · replace hf := ite_t hf c2
      refine lv_ldc (v := -2000000000) hx hb hown (hts _ kn_X12_213) dX12_give_17 ?_
      exact w_iret C hw hr (so2 hf).1 (so2 hf).2 dX12_give_19
theorem dX12_led_0 : decode cX12_led 0 = .ok (.iload_n 1, 1) := by decide +kernel
theorem dX12_led_1 : decode cX12_led 1 = .ok (.iconst 0, 1) := by decide +kernel
theorem dX12_led_2 : decode cX12_led 2 = .ok (.iconst 3, 1) := by decide +kernel
theorem dX12_led_3 : decode cX12_led 3 = .ok (.invokestatic 147, 3) := by decide +kernel
theorem dX12_led_6 : decode cX12_led 6 = .ok (.ifCond .eq 10, 3) := by decide +kernel
theorem dX12_led_9 : decode cX12_led 9 = .ok (.aload_n 0, 1) := by decide +kernel
theorem dX12_led_10 : decode cX12_led 10 = .ok (.getfield 106, 3) := by decide +kernel
theorem dX12_led_13 : decode cX12_led 13 = .ok (.iload_n 1, 1) := by decide +kernel
theorem dX12_led_14 : decode cX12_led 14 = .ok (.iaload, 1) := by decide +kernel
theorem dX12_led_15 : decode cX12_led 15 = .ok (.ireturn, 1) := by decide +kernel
theorem dX12_led_16 : decode cX12_led 16 = .ok (.iload_n 1, 1) := by decide +kernel
theorem dX12_led_17 : decode cX12_led 17 = .ok (.bipush 100, 2) := by decide +kernel
theorem dX12_led_19 : decode cX12_led 19 = .ok (.if_icmp .lt 39, 3) := by decide +kernel
theorem dX12_led_22 : decode cX12_led 22 = .ok (.iload_n 1, 1) := by decide +kernel
theorem dX12_led_23 : decode cX12_led 23 = .ok (.bipush 100, 2) := by decide +kernel
theorem dX12_led_25 : decode cX12_led 25 = .ok (.isub, 1) := by decide +kernel
theorem dX12_led_26 : decode cX12_led 26 = .ok (.invokestatic 318, 3) := by decide +kernel
theorem dX12_led_29 : decode cX12_led 29 = .ok (.ifCond .eq 29, 3) := by decide +kernel
theorem dX12_led_32 : decode cX12_led 32 = .ok (.aload_n 0, 1) := by decide +kernel
theorem dX12_led_33 : decode cX12_led 33 = .ok (.getfield 103, 3) := by decide +kernel
theorem dX12_led_36 : decode cX12_led 36 = .ok (.bipush 6, 2) := by decide +kernel
theorem dX12_led_38 : decode cX12_led 38 = .ok (.iload_n 1, 1) := by decide +kernel
theorem dX12_led_39 : decode cX12_led 39 = .ok (.bipush 100, 2) := by decide +kernel
theorem dX12_led_41 : decode cX12_led 41 = .ok (.isub, 1) := by decide +kernel
theorem dX12_led_42 : decode cX12_led 42 = .ok (.bipush 10, 2) := by decide +kernel
theorem dX12_led_44 : decode cX12_led 44 = .ok (.idiv, 1) := by decide +kernel
theorem dX12_led_45 : decode cX12_led 45 = .ok (.imul, 1) := by decide +kernel
theorem dX12_led_46 : decode cX12_led 46 = .ok (.iload_n 1, 1) := by decide +kernel
theorem dX12_led_47 : decode cX12_led 47 = .ok (.bipush 100, 2) := by decide +kernel
theorem dX12_led_49 : decode cX12_led 49 = .ok (.isub, 1) := by decide +kernel
theorem dX12_led_50 : decode cX12_led 50 = .ok (.bipush 10, 2) := by decide +kernel
theorem dX12_led_52 : decode cX12_led 52 = .ok (.irem, 1) := by decide +kernel
theorem dX12_led_53 : decode cX12_led 53 = .ok (.iadd, 1) := by decide +kernel
theorem dX12_led_54 : decode cX12_led 54 = .ok (.iaload, 1) := by decide +kernel
theorem dX12_led_55 : decode cX12_led 55 = .ok (.goto 4, 3) := by decide +kernel
theorem dX12_led_58 : decode cX12_led 58 = .ok (.iconst (-1), 1) := by decide +kernel
theorem dX12_led_59 : decode cX12_led 59 = .ok (.ireturn, 1) := by decide +kernel
theorem ok_yX12_led : yOk yX12_led 1 := ⟨by decide +kernel, by decide +kernel, by decide +kernel⟩
def fX12_led (st : St) (a1 : Int32) : Option (Int32) := if bI (fX12_in a1 (0 : Int32) (3 : Int32)) = 0 then (if a1 < (100 : Int32) then (some (-1 : Int32)) else (if bI (fX12_areTwo (a1 - (100 : Int32))) = 0 then (some (-1 : Int32)) else (gd (inB (((6 : Int32) * ((a1 - (100 : Int32)) / (10 : Int32))) + (rmI (a1 - (100 : Int32)) (10 : Int32))) 36) (some (gI st 31 (((6 : Int32) * ((a1 - (100 : Int32)) / (10 : Int32))) + (rmI (a1 - (100 : Int32)) (10 : Int32))).toNatClampNeg))))) else (gd (inB a1 4) (some (gI st 32 a1.toNatClampNeg)))
set_option maxHeartbeats 4000000 in
theorem zX12_led (l : Launch) (X : WX) (st : St) (a1 : Int32) (R : Int32) (hf : fX12_led st a1 = some R) : CtI l yX12_led cX12_led 2 .int ({ frames := 3, cells := 0, slots := 0, locals := 62 }) EM 43 X [.ref (xq X 0), .int a1] st R st := by
  refine ct_in (own := RX12) (by decide +kernel) rfl (Nat.le_of_ble_eq_true rfl) (fun p e s m below meth c C hr hw ls hl => ?_)
  obtain ⟨hx, hb, hml, hown, hts⟩ := id C.1
  have hl : lv_has ls 2 [(0, .ref (xq X 0)), (1, .int a1)] := hl
  unfold fX12_led at hf
  refine lv_iload_n hx hb dX12_led_0 rfl (lv_at hl 1 rfl) ?_
  refine lv_iconst (v := 0) hx hb dX12_led_1 (by decide) ?_
  refine lv_iconst (v := 3) hx hb dX12_led_2 (by decide) ?_
  refine w_goI hw (w_runS (rest := []) C hw (zX12_in _ _ st a1 (0 : Int32) (3 : Int32)) km_X12_147 kt_yX12_in kz_X12 kc_X12_in ok_yX12_in ⟨Nat.le_of_ble_eq_true rfl, Nat.le_of_ble_eq_true rfl⟩ rfl rfl rfl rfl hl.1 (Nat.le_of_ble_eq_true rfl) dX12_led_3 ⟨Nat.zero_le _, Nat.zero_le _⟩) (fun H locs hw => ?_)
  refine lv_if_eq (tgt := 16) hx hb dX12_led_6 (by decide) (fun c1 => ?_) (fun c1 => ?_)
  · replace hf := ite_t hf c1
    refine lv_iload_n hx hb dX12_led_16 rfl (lv_at hl 1 rfl) ?_
    refine lv_bipush (v := 100) hx hb dX12_led_17 (by decide) ?_
    refine lv_icmp_lt (tgt := 58) hx hb dX12_led_19 (by decide) (fun c2 => ?_) (fun c2 => ?_)
    · replace hf := ite_t hf c2
      refine lv_iconst (v := -1) hx hb dX12_led_58 (by decide) ?_
      exact w_iret C hw hr (Option.some.inj hf) rfl dX12_led_59
    · replace hf := ite_f hf c2
      refine lv_iload_n hx hb dX12_led_22 rfl (lv_at hl 1 rfl) ?_
      refine lv_bipush (v := 100) hx hb dX12_led_23 (by decide) ?_
      refine lv_isub hx hb dX12_led_25 ?_
      refine w_goI hw (w_runS (rest := []) C hw (zX12_areTwo _ _ st (a1 - (100 : Int32))) km_X12_318 kt_yX12_areTwo kz_X12 kc_X12_areTwo ok_yX12_areTwo ⟨Nat.le_of_ble_eq_true rfl, Nat.le_of_ble_eq_true rfl⟩ rfl rfl rfl rfl hl.1 (Nat.le_of_ble_eq_true rfl) dX12_led_26 ⟨Nat.zero_le _, Nat.zero_le _⟩) (fun H locs hw => ?_)
      refine lv_if_eq (tgt := 58) hx hb dX12_led_29 (by decide) (fun c3 => ?_) (fun c3 => ?_)
      · replace hf := ite_t hf c3
        refine lv_iconst (v := -1) hx hb dX12_led_58 (by decide) ?_
        exact w_iret C hw hr (Option.some.inj hf) rfl dX12_led_59
      · replace hf := ite_f hf c3
        refine lv_aload_n hx hb dX12_led_32 rfl (lv_at hl 0 rfl) ?_
        refine w_get (T := TX12) C hw (by decide) 42 kf_X12_103 (EM_0 X _ _) rfl inA12 (by decide) rfl dX12_led_33 ?_
        refine lv_bipush (v := 6) hx hb dX12_led_36 (by decide) ?_
        refine lv_iload_n hx hb dX12_led_38 rfl (lv_at hl 1 rfl) ?_
        refine lv_bipush (v := 100) hx hb dX12_led_39 (by decide) ?_
        refine lv_isub hx hb dX12_led_41 ?_
        refine lv_bipush (v := 10) hx hb dX12_led_42 (by decide) ?_
        refine lv_idiv hx hb dX12_led_44 (by decide) ?_
        refine lv_imul hx hb dX12_led_45 ?_
        refine lv_iload_n hx hb dX12_led_46 rfl (lv_at hl 1 rfl) ?_
        refine lv_bipush (v := 100) hx hb dX12_led_47 (by decide) ?_
        refine lv_isub hx hb dX12_led_49 ?_
        refine lv_bipush (v := 10) hx hb dX12_led_50 (by decide) ?_
        refine w_irem C (by decide) dX12_led_52 ?_
        refine lv_iadd hx hb dX12_led_53 ?_
        obtain ⟨h4, hf⟩ := gd_some hf
        refine w_iald C hw (by decide) (EM_31 X _ _) h4 rfl dX12_led_54 ?_
        refine lv_goto (tgt := 59) hx hb dX12_led_55 (by decide) ?_
        exact w_iret C hw hr (Option.some.inj hf) rfl dX12_led_59
  · replace hf := ite_f hf c1
    refine lv_aload_n hx hb dX12_led_9 rfl (lv_at hl 0 rfl) ?_
    refine w_get (T := TX12) C hw (by decide) 43 kf_X12_106 (EM_0 X _ _) rfl inA12 (by decide) rfl dX12_led_10 ?_
    refine lv_iload_n hx hb dX12_led_13 rfl (lv_at hl 1 rfl) ?_
    obtain ⟨h5, hf⟩ := gd_some hf
    refine w_iald C hw (by decide) (EM_32 X _ _) h5 rfl dX12_led_14 ?_
    exact w_iret C hw hr (Option.some.inj hf) rfl dX12_led_15
theorem dX12_image_0 : decode cX12_image 0 = .ok (.aload_n 0, 1) := by decide +kernel
theorem dX12_image_1 : decode cX12_image 1 = .ok (.iconst 1, 1) := by decide +kernel
theorem dX12_image_2 : decode cX12_image 2 = .ok (.putfield 399, 3) := by decide +kernel
theorem dX12_image_5 : decode cX12_image 5 = .ok (.aload_n 0, 1) := by decide +kernel
theorem dX12_image_6 : decode cX12_image 6 = .ok (.aload_n 0, 1) := by decide +kernel
theorem dX12_image_7 : decode cX12_image 7 = .ok (.getfield 144, 3) := by decide +kernel
theorem dX12_image_10 : decode cX12_image 10 = .ok (.putfield 402, 3) := by decide +kernel
theorem dX12_image_13 : decode cX12_image 13 = .ok (.iconst 0, 1) := by decide +kernel
theorem dX12_image_14 : decode cX12_image 14 = .ok (.istore_n 1, 1) := by decide +kernel
theorem dX12_image_15 : decode cX12_image 15 = .ok (.iload_n 1, 1) := by decide +kernel
theorem dX12_image_16 : decode cX12_image 16 = .ok (.bipush 10, 2) := by decide +kernel
theorem dX12_image_18 : decode cX12_image 18 = .ok (.if_icmp .ge 37, 3) := by decide +kernel
theorem dX12_image_21 : decode cX12_image 21 = .ok (.aload_n 0, 1) := by decide +kernel
theorem dX12_image_22 : decode cX12_image 22 = .ok (.getfield 109, 3) := by decide +kernel
theorem dX12_image_25 : decode cX12_image 25 = .ok (.iload_n 1, 1) := by decide +kernel
theorem dX12_image_26 : decode cX12_image 26 = .ok (.iload_n 1, 1) := by decide +kernel
theorem dX12_image_27 : decode cX12_image 27 = .ok (.aload_n 0, 1) := by decide +kernel
theorem dX12_image_28 : decode cX12_image 28 = .ok (.getfield 151, 3) := by decide +kernel
theorem dX12_image_31 : decode cX12_image 31 = .ok (.if_icmp .ge 16, 3) := by decide +kernel
theorem dX12_image_34 : decode cX12_image 34 = .ok (.aload_n 0, 1) := by decide +kernel
theorem dX12_image_35 : decode cX12_image 35 = .ok (.getfield 99, 3) := by decide +kernel
theorem dX12_image_38 : decode cX12_image 38 = .ok (.iload_n 1, 1) := by decide +kernel
theorem dX12_image_39 : decode cX12_image 39 = .ok (.baload, 1) := by decide +kernel
theorem dX12_image_40 : decode cX12_image 40 = .ok (.ifCond .eq 7, 3) := by decide +kernel
theorem dX12_image_43 : decode cX12_image 43 = .ok (.iconst 1, 1) := by decide +kernel
theorem dX12_image_44 : decode cX12_image 44 = .ok (.goto 4, 3) := by decide +kernel
theorem dX12_image_47 : decode cX12_image 47 = .ok (.iconst 0, 1) := by decide +kernel
theorem dX12_image_48 : decode cX12_image 48 = .ok (.bastore, 1) := by decide +kernel
theorem dX12_image_49 : decode cX12_image 49 = .ok (.iinc 1 1, 3) := by decide +kernel
theorem dX12_image_52 : decode cX12_image 52 = .ok (.goto (-37), 3) := by decide +kernel
theorem dX12_image_55 : decode cX12_image 55 = .ok (.iconst 0, 1) := by decide +kernel
theorem dX12_image_56 : decode cX12_image 56 = .ok (.istore_n 1, 1) := by decide +kernel
theorem dX12_image_57 : decode cX12_image 57 = .ok (.iload_n 1, 1) := by decide +kernel
theorem dX12_image_58 : decode cX12_image 58 = .ok (.bipush 36, 2) := by decide +kernel
theorem dX12_image_60 : decode cX12_image 60 = .ok (.if_icmp .ge 21, 3) := by decide +kernel
theorem dX12_image_63 : decode cX12_image 63 = .ok (.aload_n 0, 1) := by decide +kernel
theorem dX12_image_64 : decode cX12_image 64 = .ok (.getfield 112, 3) := by decide +kernel
theorem dX12_image_67 : decode cX12_image 67 = .ok (.iload_n 1, 1) := by decide +kernel
theorem dX12_image_68 : decode cX12_image 68 = .ok (.aload_n 0, 1) := by decide +kernel
theorem dX12_image_69 : decode cX12_image 69 = .ok (.getfield 103, 3) := by decide +kernel
theorem dX12_image_72 : decode cX12_image 72 = .ok (.iload_n 1, 1) := by decide +kernel
theorem dX12_image_73 : decode cX12_image 73 = .ok (.iaload, 1) := by decide +kernel
theorem dX12_image_74 : decode cX12_image 74 = .ok (.iastore, 1) := by decide +kernel
theorem dX12_image_75 : decode cX12_image 75 = .ok (.iinc 1 1, 3) := by decide +kernel
theorem dX12_image_78 : decode cX12_image 78 = .ok (.goto (-21), 3) := by decide +kernel
theorem dX12_image_81 : decode cX12_image 81 = .ok (.iconst 0, 1) := by decide +kernel
theorem dX12_image_82 : decode cX12_image 82 = .ok (.istore_n 1, 1) := by decide +kernel
theorem dX12_image_83 : decode cX12_image 83 = .ok (.iload_n 1, 1) := by decide +kernel
theorem dX12_image_84 : decode cX12_image 84 = .ok (.aload_n 0, 1) := by decide +kernel
theorem dX12_image_85 : decode cX12_image 85 = .ok (.getfield 144, 3) := by decide +kernel
theorem dX12_image_88 : decode cX12_image 88 = .ok (.if_icmp .ge 21, 3) := by decide +kernel
theorem dX12_image_91 : decode cX12_image 91 = .ok (.aload_n 0, 1) := by decide +kernel
theorem dX12_image_92 : decode cX12_image 92 = .ok (.getfield 115, 3) := by decide +kernel
theorem dX12_image_95 : decode cX12_image 95 = .ok (.iload_n 1, 1) := by decide +kernel
theorem dX12_image_96 : decode cX12_image 96 = .ok (.aload_n 0, 1) := by decide +kernel
theorem dX12_image_97 : decode cX12_image 97 = .ok (.getfield 22, 3) := by decide +kernel
theorem dX12_image_100 : decode cX12_image 100 = .ok (.iload_n 1, 1) := by decide +kernel
theorem dX12_image_101 : decode cX12_image 101 = .ok (.iaload, 1) := by decide +kernel
theorem dX12_image_102 : decode cX12_image 102 = .ok (.iastore, 1) := by decide +kernel
theorem dX12_image_103 : decode cX12_image 103 = .ok (.iinc 1 1, 3) := by decide +kernel
theorem dX12_image_106 : decode cX12_image 106 = .ok (.goto (-23), 3) := by decide +kernel
theorem dX12_image_109 : decode cX12_image 109 = .ok (.iconst 0, 1) := by decide +kernel
theorem dX12_image_110 : decode cX12_image 110 = .ok (.istore_n 1, 1) := by decide +kernel
theorem dX12_image_111 : decode cX12_image 111 = .ok (.iload_n 1, 1) := by decide +kernel
theorem dX12_image_112 : decode cX12_image 112 = .ok (.iconst 4, 1) := by decide +kernel
theorem dX12_image_113 : decode cX12_image 113 = .ok (.if_icmp .ge 21, 3) := by decide +kernel
theorem dX12_image_116 : decode cX12_image 116 = .ok (.aload_n 0, 1) := by decide +kernel
theorem dX12_image_117 : decode cX12_image 117 = .ok (.getfield 118, 3) := by decide +kernel
theorem dX12_image_120 : decode cX12_image 120 = .ok (.iload_n 1, 1) := by decide +kernel
theorem dX12_image_121 : decode cX12_image 121 = .ok (.aload_n 0, 1) := by decide +kernel
theorem dX12_image_122 : decode cX12_image 122 = .ok (.getfield 106, 3) := by decide +kernel
theorem dX12_image_125 : decode cX12_image 125 = .ok (.iload_n 1, 1) := by decide +kernel
theorem dX12_image_126 : decode cX12_image 126 = .ok (.iaload, 1) := by decide +kernel
theorem dX12_image_127 : decode cX12_image 127 = .ok (.iastore, 1) := by decide +kernel
theorem dX12_image_128 : decode cX12_image 128 = .ok (.iinc 1 1, 3) := by decide +kernel
theorem dX12_image_131 : decode cX12_image 131 = .ok (.goto (-20), 3) := by decide +kernel
theorem dX12_image_134 : decode cX12_image 134 = .ok (.aload_n 0, 1) := by decide +kernel
theorem dX12_image_135 : decode cX12_image 135 = .ok (.getfield 106, 3) := by decide +kernel
theorem dX12_image_138 : decode cX12_image 138 = .ok (.iconst 0, 1) := by decide +kernel
theorem dX12_image_139 : decode cX12_image 139 = .ok (.iaload, 1) := by decide +kernel
theorem dX12_image_140 : decode cX12_image 140 = .ok (.ireturn, 1) := by decide +kernel
theorem ok_yX12_image : yOk yX12_image 0 := ⟨by decide +kernel, by decide +kernel, by decide +kernel⟩
def fX12_image_111 (n : Nat) : Nat → St → Int32 → Option (Int32 × St)
  | 0, _, _ => none
  | k + 1, st, v1 => if (4 : Int32) ≤ v1 then (some ((gI st 32 0), st)) else (gd (inB v1 4) (gd (inB v1 4) (bnd (sI st 36 v1.toNatClampNeg (gI st 32 v1.toNatClampNeg)) (fun st41 => bnd (v1 + (1 : Int32)) (fun x43 => fX12_image_111 n k st41 x43)))))
set_option maxHeartbeats 4000000 in
theorem tX12_image_111 {p : Program} {l : Launch} {e : Env} {s : State} {m : MethodId} {args : Array Value} {below : List Frame} {meth : Method} {c : Code} {X : WX} (C : Amb 43 X p s m args meth c cX12_image 2 RX12) (hr : meth.sig.returnType = some .int) {R : Int32 × St} {n : Nat} : ∀ (k : Nat) (st : St) (v1 : Int32) (H : Heap) (locs : List Loc) (ls : Array Slot), Wd EM 43 X s.heap st H locs → lv_has ls 2 [(0, .ref (xq X 0)), (1, .int v1)] → fX12_image_111 n k st v1 = some R → W p l e { frames := 0, cells := 0, slots := 0, locals := 0 } s m args below meth c H locs 0 0 (QI EM 43 X R.1 R.2 below args s) (F0 m 111 ls []) := by
  obtain ⟨hx, hb, hml, hown, hts⟩ := id C.1
  intro k
  induction k with
  | zero => intro st v1 H locs ls  hw hl hf; exact absurd (show none = some R from hf) (fun z => by cases z)
  | succ k ih =>
    intro st v1 H locs ls  hw hl hf
    rw [fX12_image_111] at hf
    refine lv_iload_n hx hb dX12_image_111 rfl (lv_at hl 1 rfl) ?_
    refine lv_iconst (v := 4) hx hb dX12_image_112 (by decide) ?_
    refine lv_icmp_ge (tgt := 134) hx hb dX12_image_113 (by decide) (fun c38 => ?_) (fun c38 => ?_)
    · replace hf := ite_t hf c38
      refine lv_aload_n hx hb dX12_image_134 rfl (lv_at hl 0 rfl) ?_
      refine w_get (T := TX12) C hw (by decide) 43 kf_X12_106 (EM_0 X _ _) rfl inA12 (by decide) rfl dX12_image_135 ?_
      refine lv_iconst (v := 0) hx hb dX12_image_138 (by decide) ?_
      refine w_iald C hw (by decide) (EM_32 X _ _) (by decide) (show (0 : Int32).toNatClampNeg = 0 by decide) dX12_image_139 ?_
      exact w_iret C hw hr (so2 hf).1 (so2 hf).2 dX12_image_140
    · replace hf := ite_f hf c38
      refine lv_aload_n hx hb dX12_image_116 rfl (lv_at hl 0 rfl) ?_
      refine w_get (T := TX12) C hw (by decide) 49 kf_X12_118 (EM_0 X _ _) rfl inA12 (by decide) rfl dX12_image_117 ?_
      refine lv_iload_n hx hb dX12_image_120 rfl (lv_at hl 1 rfl) ?_
      refine lv_aload_n hx hb dX12_image_121 rfl (lv_at hl 0 rfl) ?_
      refine w_get (T := TX12) C hw (by decide) 43 kf_X12_106 (EM_0 X _ _) rfl inA12 (by decide) rfl dX12_image_122 ?_
      refine lv_iload_n hx hb dX12_image_125 rfl (lv_at hl 1 rfl) ?_
      obtain ⟨h39, hf⟩ := gd_some hf
      refine w_iald C hw (by decide) (EM_32 X _ _) h39 rfl dX12_image_126 ?_
      obtain ⟨h40, hf⟩ := gd_some hf
      obtain ⟨st41, es42⟩ : ∃ z : St, z = sI st 36 v1.toNatClampNeg (gI st 32 v1.toNatClampNeg) := ⟨_, rfl⟩
      replace hf := bnd_nm hf es42
      refine w_iast C hw (by decide) (fun f9 => EM_36 X f9 _) h40 rfl dX12_image_127 (fun H locs hw => ?_)
      rw [← es42] at hw
      obtain ⟨x43, e44⟩ : ∃ z : Int32, z = v1 + (1 : Int32) := ⟨_, rfl⟩
      replace hf := bnd_nm hf e44
      refine lv_iinc (v := x43) (lv' := [(1, .int x43), (0, .ref (xq X 0))]) hx hb dX12_image_128 hl (k := 1) rfl (by rw [e44]; rfl) (by decide) rfl (fun ls hl => ?_)
      refine lv_goto (tgt := 111) hx hb dX12_image_131 (by decide) ?_
      exact ih st41 x43 _ _ _ hw (lv_sub hl [1, 0] rfl) hf
def fX12_image_83 (n : Nat) : Nat → St → Int32 → Option (Int32 × St)
  | 0, _, _ => none
  | k + 1, st, v1 => if gI st 0 1 ≤ v1 then (fX12_image_111 n n st (0 : Int32)) else (gd (inB v1 8) (gd (inB v1 8) (bnd (sI st 35 v1.toNatClampNeg (gI st 5 v1.toNatClampNeg)) (fun st34 => bnd (v1 + (1 : Int32)) (fun x36 => fX12_image_83 n k st34 x36)))))
set_option maxHeartbeats 4000000 in
theorem tX12_image_83 {p : Program} {l : Launch} {e : Env} {s : State} {m : MethodId} {args : Array Value} {below : List Frame} {meth : Method} {c : Code} {X : WX} (C : Amb 43 X p s m args meth c cX12_image 2 RX12) (hr : meth.sig.returnType = some .int) {R : Int32 × St} {n : Nat} : ∀ (k : Nat) (st : St) (v1 : Int32) (H : Heap) (locs : List Loc) (ls : Array Slot), Wd EM 43 X s.heap st H locs → lv_has ls 2 [(0, .ref (xq X 0)), (1, .int v1)] → fX12_image_83 n k st v1 = some R → W p l e { frames := 0, cells := 0, slots := 0, locals := 0 } s m args below meth c H locs 0 0 (QI EM 43 X R.1 R.2 below args s) (F0 m 83 ls []) := by
  obtain ⟨hx, hb, hml, hown, hts⟩ := id C.1
  intro k
  induction k with
  | zero => intro st v1 H locs ls  hw hl hf; exact absurd (show none = some R from hf) (fun z => by cases z)
  | succ k ih =>
    intro st v1 H locs ls  hw hl hf
    rw [fX12_image_83] at hf
    refine lv_iload_n hx hb dX12_image_83 rfl (lv_at hl 1 rfl) ?_
    refine lv_aload_n hx hb dX12_image_84 rfl (lv_at hl 0 rfl) ?_
    refine w_get (T := TX12) C hw (by decide) 1 kf_X12_144 (EM_0 X _ _) rfl inA12 (by decide) rfl dX12_image_85 ?_
    refine lv_icmp_ge (tgt := 109) hx hb dX12_image_88 (by decide) (fun c31 => ?_) (fun c31 => ?_)
    · replace hf := ite_t hf c31
      refine lv_iconst (v := 0) hx hb dX12_image_109 (by decide) ?_
      refine lv_istore_n (lv' := [(1, .int (0 : Int32)), (0, .ref (xq X 0))]) hx hb dX12_image_110 rfl hl (by decide) rfl (fun ls hl => ?_)
      exact tX12_image_111 C hr n st (0 : Int32) _ _ _ hw (lv_sub hl [1, 0] rfl) hf
    · replace hf := ite_f hf c31
      refine lv_aload_n hx hb dX12_image_91 rfl (lv_at hl 0 rfl) ?_
      refine w_get (T := TX12) C hw (by decide) 48 kf_X12_115 (EM_0 X _ _) rfl inA12 (by decide) rfl dX12_image_92 ?_
      refine lv_iload_n hx hb dX12_image_95 rfl (lv_at hl 1 rfl) ?_
      refine lv_aload_n hx hb dX12_image_96 rfl (lv_at hl 0 rfl) ?_
      refine w_get (T := TX12) C hw (by decide) 6 kf_X12_22 (EM_0 X _ _) rfl inA12 (by decide) rfl dX12_image_97 ?_
      refine lv_iload_n hx hb dX12_image_100 rfl (lv_at hl 1 rfl) ?_
      obtain ⟨h32, hf⟩ := gd_some hf
      refine w_iald C hw (by decide) (EM_5 X _ _) h32 rfl dX12_image_101 ?_
      obtain ⟨h33, hf⟩ := gd_some hf
      obtain ⟨st34, es35⟩ : ∃ z : St, z = sI st 35 v1.toNatClampNeg (gI st 5 v1.toNatClampNeg) := ⟨_, rfl⟩
      replace hf := bnd_nm hf es35
      refine w_iast C hw (by decide) (fun f9 => EM_35 X f9 _) h33 rfl dX12_image_102 (fun H locs hw => ?_)
      rw [← es35] at hw
      obtain ⟨x36, e37⟩ : ∃ z : Int32, z = v1 + (1 : Int32) := ⟨_, rfl⟩
      replace hf := bnd_nm hf e37
      refine lv_iinc (v := x36) (lv' := [(1, .int x36), (0, .ref (xq X 0))]) hx hb dX12_image_103 hl (k := 1) rfl (by rw [e37]; rfl) (by decide) rfl (fun ls hl => ?_)
      refine lv_goto (tgt := 83) hx hb dX12_image_106 (by decide) ?_
      exact ih st34 x36 _ _ _ hw (lv_sub hl [1, 0] rfl) hf
def fX12_image_57 (n : Nat) : Nat → St → Int32 → Option (Int32 × St)
  | 0, _, _ => none
  | k + 1, st, v1 => if (36 : Int32) ≤ v1 then (fX12_image_83 n n st (0 : Int32)) else (gd (inB v1 36) (gd (inB v1 36) (bnd (sI st 34 v1.toNatClampNeg (gI st 31 v1.toNatClampNeg)) (fun st27 => bnd (v1 + (1 : Int32)) (fun x29 => fX12_image_57 n k st27 x29)))))
set_option maxHeartbeats 4000000 in
theorem tX12_image_57 {p : Program} {l : Launch} {e : Env} {s : State} {m : MethodId} {args : Array Value} {below : List Frame} {meth : Method} {c : Code} {X : WX} (C : Amb 43 X p s m args meth c cX12_image 2 RX12) (hr : meth.sig.returnType = some .int) {R : Int32 × St} {n : Nat} : ∀ (k : Nat) (st : St) (v1 : Int32) (H : Heap) (locs : List Loc) (ls : Array Slot), Wd EM 43 X s.heap st H locs → lv_has ls 2 [(0, .ref (xq X 0)), (1, .int v1)] → fX12_image_57 n k st v1 = some R → W p l e { frames := 0, cells := 0, slots := 0, locals := 0 } s m args below meth c H locs 0 0 (QI EM 43 X R.1 R.2 below args s) (F0 m 57 ls []) := by
  obtain ⟨hx, hb, hml, hown, hts⟩ := id C.1
  intro k
  induction k with
  | zero => intro st v1 H locs ls  hw hl hf; exact absurd (show none = some R from hf) (fun z => by cases z)
  | succ k ih =>
    intro st v1 H locs ls  hw hl hf
    rw [fX12_image_57] at hf
    refine lv_iload_n hx hb dX12_image_57 rfl (lv_at hl 1 rfl) ?_
    refine lv_bipush (v := 36) hx hb dX12_image_58 (by decide) ?_
    refine lv_icmp_ge (tgt := 81) hx hb dX12_image_60 (by decide) (fun c24 => ?_) (fun c24 => ?_)
    · replace hf := ite_t hf c24
      refine lv_iconst (v := 0) hx hb dX12_image_81 (by decide) ?_
      refine lv_istore_n (lv' := [(1, .int (0 : Int32)), (0, .ref (xq X 0))]) hx hb dX12_image_82 rfl hl (by decide) rfl (fun ls hl => ?_)
      exact tX12_image_83 C hr n st (0 : Int32) _ _ _ hw (lv_sub hl [1, 0] rfl) hf
    · replace hf := ite_f hf c24
      refine lv_aload_n hx hb dX12_image_63 rfl (lv_at hl 0 rfl) ?_
      refine w_get (T := TX12) C hw (by decide) 47 kf_X12_112 (EM_0 X _ _) rfl inA12 (by decide) rfl dX12_image_64 ?_
      refine lv_iload_n hx hb dX12_image_67 rfl (lv_at hl 1 rfl) ?_
      refine lv_aload_n hx hb dX12_image_68 rfl (lv_at hl 0 rfl) ?_
      refine w_get (T := TX12) C hw (by decide) 42 kf_X12_103 (EM_0 X _ _) rfl inA12 (by decide) rfl dX12_image_69 ?_
      refine lv_iload_n hx hb dX12_image_72 rfl (lv_at hl 1 rfl) ?_
      obtain ⟨h25, hf⟩ := gd_some hf
      refine w_iald C hw (by decide) (EM_31 X _ _) h25 rfl dX12_image_73 ?_
      obtain ⟨h26, hf⟩ := gd_some hf
      obtain ⟨st27, es28⟩ : ∃ z : St, z = sI st 34 v1.toNatClampNeg (gI st 31 v1.toNatClampNeg) := ⟨_, rfl⟩
      replace hf := bnd_nm hf es28
      refine w_iast C hw (by decide) (fun f9 => EM_34 X f9 _) h26 rfl dX12_image_74 (fun H locs hw => ?_)
      rw [← es28] at hw
      obtain ⟨x29, e30⟩ : ∃ z : Int32, z = v1 + (1 : Int32) := ⟨_, rfl⟩
      replace hf := bnd_nm hf e30
      refine lv_iinc (v := x29) (lv' := [(1, .int x29), (0, .ref (xq X 0))]) hx hb dX12_image_75 hl (k := 1) rfl (by rw [e30]; rfl) (by decide) rfl (fun ls hl => ?_)
      refine lv_goto (tgt := 57) hx hb dX12_image_78 (by decide) ?_
      exact ih st27 x29 _ _ _ hw (lv_sub hl [1, 0] rfl) hf
def fX12_image_15 (n : Nat) : Nat → St → Int32 → Option (Int32 × St)
  | 0, _, _ => none
  | k + 1, st, v1 => if (10 : Int32) ≤ v1 then (fX12_image_57 n n st (0 : Int32)) else (if gI st 0 8 ≤ v1 then (gd (inB v1 11) (bnd (sI st 33 v1.toNatClampNeg (vp_nar .boolean (0 : Int32))) (fun st8 => bnd (v1 + (1 : Int32)) (fun x10 => fX12_image_15 n k st8 x10)))) else (gd (inB v1 11) (if gI st 30 v1.toNatClampNeg = 0 then (gd (inB v1 11) (bnd (sI st 33 v1.toNatClampNeg (vp_nar .boolean (0 : Int32))) (fun st15 => bnd (v1 + (1 : Int32)) (fun x17 => fX12_image_15 n k st15 x17)))) else (gd (inB v1 11) (bnd (sI st 33 v1.toNatClampNeg (vp_nar .boolean (1 : Int32))) (fun st20 => bnd (v1 + (1 : Int32)) (fun x22 => fX12_image_15 n k st20 x22)))))))
set_option maxHeartbeats 4000000 in
theorem tX12_image_15 {p : Program} {l : Launch} {e : Env} {s : State} {m : MethodId} {args : Array Value} {below : List Frame} {meth : Method} {c : Code} {X : WX} (C : Amb 43 X p s m args meth c cX12_image 2 RX12) (hr : meth.sig.returnType = some .int) {R : Int32 × St} {n : Nat} : ∀ (k : Nat) (st : St) (v1 : Int32) (H : Heap) (locs : List Loc) (ls : Array Slot), Wd EM 43 X s.heap st H locs → lv_has ls 2 [(0, .ref (xq X 0)), (1, .int v1)] → fX12_image_15 n k st v1 = some R → W p l e { frames := 0, cells := 0, slots := 0, locals := 0 } s m args below meth c H locs 0 0 (QI EM 43 X R.1 R.2 below args s) (F0 m 15 ls []) := by
  obtain ⟨hx, hb, hml, hown, hts⟩ := id C.1
  intro k
  induction k with
  | zero => intro st v1 H locs ls  hw hl hf; exact absurd (show none = some R from hf) (fun z => by cases z)
  | succ k ih =>
    intro st v1 H locs ls  hw hl hf
    rw [fX12_image_15] at hf
    refine lv_iload_n hx hb dX12_image_15 rfl (lv_at hl 1 rfl) ?_
    refine lv_bipush (v := 10) hx hb dX12_image_16 (by decide) ?_
    refine lv_icmp_ge (tgt := 55) hx hb dX12_image_18 (by decide) (fun c5 => ?_) (fun c5 => ?_)
    · replace hf := ite_t hf c5
      refine lv_iconst (v := 0) hx hb dX12_image_55 (by decide) ?_
      refine lv_istore_n (lv' := [(1, .int (0 : Int32)), (0, .ref (xq X 0))]) hx hb dX12_image_56 rfl hl (by decide) rfl (fun ls hl => ?_)
      exact tX12_image_57 C hr n st (0 : Int32) _ _ _ hw (lv_sub hl [1, 0] rfl) hf
    · replace hf := ite_f hf c5
      refine lv_aload_n hx hb dX12_image_21 rfl (lv_at hl 0 rfl) ?_
      refine w_get (T := TX12) C hw (by decide) 46 kf_X12_109 (EM_0 X _ _) rfl inA12 (by decide) rfl dX12_image_22 ?_
      refine lv_iload_n hx hb dX12_image_25 rfl (lv_at hl 1 rfl) ?_
      refine lv_iload_n hx hb dX12_image_26 rfl (lv_at hl 1 rfl) ?_
      refine lv_aload_n hx hb dX12_image_27 rfl (lv_at hl 0 rfl) ?_
      refine w_get (T := TX12) C hw (by decide) 8 kf_X12_151 (EM_0 X _ _) rfl inA12 (by decide) rfl dX12_image_28 ?_
      refine lv_icmp_ge (tgt := 47) hx hb dX12_image_31 (by decide) (fun c6 => ?_) (fun c6 => ?_)
      · replace hf := ite_t hf c6
        refine lv_iconst (v := 0) hx hb dX12_image_47 (by decide) ?_
        obtain ⟨h7, hf⟩ := gd_some hf
        obtain ⟨st8, es9⟩ : ∃ z : St, z = sI st 33 v1.toNatClampNeg (vp_nar .boolean (0 : Int32)) := ⟨_, rfl⟩
        replace hf := bnd_nm hf es9
        refine w_zast C hw (by decide) (fun f9 => EM_33 X f9 _) h7 rfl dX12_image_48 (fun H locs hw => ?_)
        rw [← es9] at hw
        obtain ⟨x10, e11⟩ : ∃ z : Int32, z = v1 + (1 : Int32) := ⟨_, rfl⟩
        replace hf := bnd_nm hf e11
        refine lv_iinc (v := x10) (lv' := [(1, .int x10), (0, .ref (xq X 0))]) hx hb dX12_image_49 hl (k := 1) rfl (by rw [e11]; rfl) (by decide) rfl (fun ls hl => ?_)
        refine lv_goto (tgt := 15) hx hb dX12_image_52 (by decide) ?_
        exact ih st8 x10 _ _ _ hw (lv_sub hl [1, 0] rfl) hf
      · replace hf := ite_f hf c6
        refine lv_aload_n hx hb dX12_image_34 rfl (lv_at hl 0 rfl) ?_
        refine w_get (T := TX12) C hw (by decide) 41 kf_X12_99 (EM_0 X _ _) rfl inA12 (by decide) rfl dX12_image_35 ?_
        refine lv_iload_n hx hb dX12_image_38 rfl (lv_at hl 1 rfl) ?_
        obtain ⟨h12, hf⟩ := gd_some hf
        refine w_zald C hw (by decide) (EM_30 X _ _) h12 rfl dX12_image_39 ?_
        refine lv_if_eq (tgt := 47) hx hb dX12_image_40 (by decide) (fun c13 => ?_) (fun c13 => ?_)
        · replace hf := ite_t hf c13
          refine lv_iconst (v := 0) hx hb dX12_image_47 (by decide) ?_
          obtain ⟨h14, hf⟩ := gd_some hf
          obtain ⟨st15, es16⟩ : ∃ z : St, z = sI st 33 v1.toNatClampNeg (vp_nar .boolean (0 : Int32)) := ⟨_, rfl⟩
          replace hf := bnd_nm hf es16
          refine w_zast C hw (by decide) (fun f9 => EM_33 X f9 _) h14 rfl dX12_image_48 (fun H locs hw => ?_)
          rw [← es16] at hw
          obtain ⟨x17, e18⟩ : ∃ z : Int32, z = v1 + (1 : Int32) := ⟨_, rfl⟩
          replace hf := bnd_nm hf e18
          refine lv_iinc (v := x17) (lv' := [(1, .int x17), (0, .ref (xq X 0))]) hx hb dX12_image_49 hl (k := 1) rfl (by rw [e18]; rfl) (by decide) rfl (fun ls hl => ?_)
          refine lv_goto (tgt := 15) hx hb dX12_image_52 (by decide) ?_
          exact ih st15 x17 _ _ _ hw (lv_sub hl [1, 0] rfl) hf
        · replace hf := ite_f hf c13
          refine lv_iconst (v := 1) hx hb dX12_image_43 (by decide) ?_
          refine lv_goto (tgt := 48) hx hb dX12_image_44 (by decide) ?_
          obtain ⟨h19, hf⟩ := gd_some hf
          obtain ⟨st20, es21⟩ : ∃ z : St, z = sI st 33 v1.toNatClampNeg (vp_nar .boolean (1 : Int32)) := ⟨_, rfl⟩
          replace hf := bnd_nm hf es21
          refine w_zast C hw (by decide) (fun f9 => EM_33 X f9 _) h19 rfl dX12_image_48 (fun H locs hw => ?_)
          rw [← es21] at hw
          obtain ⟨x22, e23⟩ : ∃ z : Int32, z = v1 + (1 : Int32) := ⟨_, rfl⟩
          replace hf := bnd_nm hf e23
          refine lv_iinc (v := x22) (lv' := [(1, .int x22), (0, .ref (xq X 0))]) hx hb dX12_image_49 hl (k := 1) rfl (by rw [e23]; rfl) (by decide) rfl (fun ls hl => ?_)
          refine lv_goto (tgt := 15) hx hb dX12_image_52 (by decide) ?_
          exact ih st20 x22 _ _ _ hw (lv_sub hl [1, 0] rfl) hf
def fX12_image (n : Nat) (st : St) : Option (Int32 × St) := bnd (sI st 0 44 (1 : Int32)) (fun st1 => bnd (sI st1 0 45 (gI st1 0 1)) (fun st3 => fX12_image_15 n n st3 (0 : Int32)))
set_option maxHeartbeats 4000000 in
theorem zX12_image (l : Launch) (X : WX) (n : Nat) (st : St)  (R : Int32 × St) (hf : fX12_image n st = some R) : CtI l yX12_image cX12_image 2 .int ({ frames := 0, cells := 0, slots := 0, locals := 0 }) EM 43 X [.ref (xq X 0)] st R.1 R.2 := by
  refine ct_in (own := RX12) (by decide +kernel) rfl (Nat.le_of_ble_eq_true rfl) (fun p e s m below meth c C hr hw ls hl => ?_)
  obtain ⟨hx, hb, hml, hown, hts⟩ := id C.1
  have hl : lv_has ls 2 [(0, .ref (xq X 0))] := hl
  unfold fX12_image at hf
  refine lv_aload_n hx hb dX12_image_0 rfl (lv_at hl 0 rfl) ?_
  refine lv_iconst (v := 1) hx hb dX12_image_1 (by decide) ?_
  obtain ⟨st1, es2⟩ : ∃ z : St, z = sI st 0 44 (1 : Int32) := ⟨_, rfl⟩
  replace hf := bnd_nm hf es2
  refine w_putz (T := TX12) C hw (by decide) 44 kf_X12_399 (EM_0 X _ _) rfl inA12 tyX12_ok nmX12 (by decide) rfl rfl rfl rfl (Nat.le_of_ble_eq_true rfl) rfl dX12_image_2 (fun H locs hw => ?_)
  rw [← es2] at hw
  refine lv_aload_n hx hb dX12_image_5 rfl (lv_at hl 0 rfl) ?_
  refine lv_aload_n hx hb dX12_image_6 rfl (lv_at hl 0 rfl) ?_
  refine w_get (T := TX12) C hw (by decide) 1 kf_X12_144 (EM_0 X _ _) rfl inA12 (by decide) rfl dX12_image_7 ?_
  obtain ⟨st3, es4⟩ : ∃ z : St, z = sI st1 0 45 (gI st1 0 1) := ⟨_, rfl⟩
  replace hf := bnd_nm hf es4
  refine w_puti (T := TX12) C hw (by decide) 45 kf_X12_402 (EM_0 X _ _) rfl inA12 tyX12_ok nmX12 (by decide) rfl rfl (Nat.le_of_ble_eq_true rfl) rfl dX12_image_10 (fun H locs hw => ?_)
  rw [← es4] at hw
  refine lv_iconst (v := 0) hx hb dX12_image_13 (by decide) ?_
  refine lv_istore_n (lv' := [(1, .int (0 : Int32)), (0, .ref (xq X 0))]) hx hb dX12_image_14 rfl hl (by decide) rfl (fun ls hl => ?_)
  exact tX12_image_15 C hr n st3 (0 : Int32) _ _ _ hw (lv_sub hl [1, 0] rfl) hf
theorem dX12_back_0 : decode cX12_back 0 = .ok (.aload_n 0, 1) := by decide +kernel
theorem dX12_back_1 : decode cX12_back 1 = .ok (.getfield 399, 3) := by decide +kernel
theorem dX12_back_4 : decode cX12_back 4 = .ok (.ifCond .ne 6, 3) := by decide +kernel
theorem dX12_back_7 : decode cX12_back 7 = .ok (.bipush (-5), 2) := by decide +kernel
theorem dX12_back_9 : decode cX12_back 9 = .ok (.ireturn, 1) := by decide +kernel
theorem dX12_back_10 : decode cX12_back 10 = .ok (.iconst 0, 1) := by decide +kernel
theorem dX12_back_11 : decode cX12_back 11 = .ok (.istore_n 1, 1) := by decide +kernel
theorem dX12_back_12 : decode cX12_back 12 = .ok (.iload_n 1, 1) := by decide +kernel
theorem dX12_back_13 : decode cX12_back 13 = .ok (.bipush 10, 2) := by decide +kernel
theorem dX12_back_15 : decode cX12_back 15 = .ok (.if_icmp .ge 21, 3) := by decide +kernel
theorem dX12_back_18 : decode cX12_back 18 = .ok (.aload_n 0, 1) := by decide +kernel
theorem dX12_back_19 : decode cX12_back 19 = .ok (.getfield 99, 3) := by decide +kernel
theorem dX12_back_22 : decode cX12_back 22 = .ok (.iload_n 1, 1) := by decide +kernel
theorem dX12_back_23 : decode cX12_back 23 = .ok (.aload_n 0, 1) := by decide +kernel
theorem dX12_back_24 : decode cX12_back 24 = .ok (.getfield 109, 3) := by decide +kernel
theorem dX12_back_27 : decode cX12_back 27 = .ok (.iload_n 1, 1) := by decide +kernel
theorem dX12_back_28 : decode cX12_back 28 = .ok (.baload, 1) := by decide +kernel
theorem dX12_back_29 : decode cX12_back 29 = .ok (.bastore, 1) := by decide +kernel
theorem dX12_back_30 : decode cX12_back 30 = .ok (.iinc 1 1, 3) := by decide +kernel
theorem dX12_back_33 : decode cX12_back 33 = .ok (.goto (-21), 3) := by decide +kernel
theorem dX12_back_36 : decode cX12_back 36 = .ok (.iconst 0, 1) := by decide +kernel
theorem dX12_back_37 : decode cX12_back 37 = .ok (.istore_n 1, 1) := by decide +kernel
theorem dX12_back_38 : decode cX12_back 38 = .ok (.iload_n 1, 1) := by decide +kernel
theorem dX12_back_39 : decode cX12_back 39 = .ok (.bipush 36, 2) := by decide +kernel
theorem dX12_back_41 : decode cX12_back 41 = .ok (.if_icmp .ge 21, 3) := by decide +kernel
theorem dX12_back_44 : decode cX12_back 44 = .ok (.aload_n 0, 1) := by decide +kernel
theorem dX12_back_45 : decode cX12_back 45 = .ok (.getfield 103, 3) := by decide +kernel
theorem dX12_back_48 : decode cX12_back 48 = .ok (.iload_n 1, 1) := by decide +kernel
theorem dX12_back_49 : decode cX12_back 49 = .ok (.aload_n 0, 1) := by decide +kernel
theorem dX12_back_50 : decode cX12_back 50 = .ok (.getfield 112, 3) := by decide +kernel
theorem dX12_back_53 : decode cX12_back 53 = .ok (.iload_n 1, 1) := by decide +kernel
theorem dX12_back_54 : decode cX12_back 54 = .ok (.iaload, 1) := by decide +kernel
theorem dX12_back_55 : decode cX12_back 55 = .ok (.iastore, 1) := by decide +kernel
theorem dX12_back_56 : decode cX12_back 56 = .ok (.iinc 1 1, 3) := by decide +kernel
theorem dX12_back_59 : decode cX12_back 59 = .ok (.goto (-21), 3) := by decide +kernel
theorem dX12_back_62 : decode cX12_back 62 = .ok (.iconst 0, 1) := by decide +kernel
theorem dX12_back_63 : decode cX12_back 63 = .ok (.istore_n 1, 1) := by decide +kernel
theorem dX12_back_64 : decode cX12_back 64 = .ok (.iload_n 1, 1) := by decide +kernel
theorem dX12_back_65 : decode cX12_back 65 = .ok (.aload_n 0, 1) := by decide +kernel
theorem dX12_back_66 : decode cX12_back 66 = .ok (.getfield 402, 3) := by decide +kernel
theorem dX12_back_69 : decode cX12_back 69 = .ok (.if_icmp .ge 21, 3) := by decide +kernel
theorem dX12_back_72 : decode cX12_back 72 = .ok (.aload_n 0, 1) := by decide +kernel
theorem dX12_back_73 : decode cX12_back 73 = .ok (.getfield 22, 3) := by decide +kernel
theorem dX12_back_76 : decode cX12_back 76 = .ok (.iload_n 1, 1) := by decide +kernel
theorem dX12_back_77 : decode cX12_back 77 = .ok (.aload_n 0, 1) := by decide +kernel
theorem dX12_back_78 : decode cX12_back 78 = .ok (.getfield 115, 3) := by decide +kernel
theorem dX12_back_81 : decode cX12_back 81 = .ok (.iload_n 1, 1) := by decide +kernel
theorem dX12_back_82 : decode cX12_back 82 = .ok (.iaload, 1) := by decide +kernel
theorem dX12_back_83 : decode cX12_back 83 = .ok (.iastore, 1) := by decide +kernel
theorem dX12_back_84 : decode cX12_back 84 = .ok (.iinc 1 1, 3) := by decide +kernel
theorem dX12_back_87 : decode cX12_back 87 = .ok (.goto (-23), 3) := by decide +kernel
theorem dX12_back_90 : decode cX12_back 90 = .ok (.iconst 0, 1) := by decide +kernel
theorem dX12_back_91 : decode cX12_back 91 = .ok (.istore_n 1, 1) := by decide +kernel
theorem dX12_back_92 : decode cX12_back 92 = .ok (.iload_n 1, 1) := by decide +kernel
theorem dX12_back_93 : decode cX12_back 93 = .ok (.iconst 4, 1) := by decide +kernel
theorem dX12_back_94 : decode cX12_back 94 = .ok (.if_icmp .ge 21, 3) := by decide +kernel
theorem dX12_back_97 : decode cX12_back 97 = .ok (.aload_n 0, 1) := by decide +kernel
theorem dX12_back_98 : decode cX12_back 98 = .ok (.getfield 106, 3) := by decide +kernel
theorem dX12_back_101 : decode cX12_back 101 = .ok (.iload_n 1, 1) := by decide +kernel
theorem dX12_back_102 : decode cX12_back 102 = .ok (.aload_n 0, 1) := by decide +kernel
theorem dX12_back_103 : decode cX12_back 103 = .ok (.getfield 118, 3) := by decide +kernel
theorem dX12_back_106 : decode cX12_back 106 = .ok (.iload_n 1, 1) := by decide +kernel
theorem dX12_back_107 : decode cX12_back 107 = .ok (.iaload, 1) := by decide +kernel
theorem dX12_back_108 : decode cX12_back 108 = .ok (.iastore, 1) := by decide +kernel
theorem dX12_back_109 : decode cX12_back 109 = .ok (.iinc 1 1, 3) := by decide +kernel
theorem dX12_back_112 : decode cX12_back 112 = .ok (.goto (-20), 3) := by decide +kernel
theorem dX12_back_115 : decode cX12_back 115 = .ok (.aload_n 0, 1) := by decide +kernel
theorem dX12_back_116 : decode cX12_back 116 = .ok (.getfield 106, 3) := by decide +kernel
theorem dX12_back_119 : decode cX12_back 119 = .ok (.iconst 0, 1) := by decide +kernel
theorem dX12_back_120 : decode cX12_back 120 = .ok (.iaload, 1) := by decide +kernel
theorem dX12_back_121 : decode cX12_back 121 = .ok (.ireturn, 1) := by decide +kernel
theorem ok_yX12_back : yOk yX12_back 0 := ⟨by decide +kernel, by decide +kernel, by decide +kernel⟩
def fX12_back_92 (n : Nat) : Nat → St → Int32 → Option (Int32 × St)
  | 0, _, _ => none
  | k + 1, st, v1 => if (4 : Int32) ≤ v1 then (some ((gI st 32 0), st)) else (gd (inB v1 4) (gd (inB v1 4) (bnd (sI st 32 v1.toNatClampNeg (gI st 36 v1.toNatClampNeg)) (fun st26 => bnd (v1 + (1 : Int32)) (fun x28 => fX12_back_92 n k st26 x28)))))
set_option maxHeartbeats 4000000 in
theorem tX12_back_92 {p : Program} {l : Launch} {e : Env} {s : State} {m : MethodId} {args : Array Value} {below : List Frame} {meth : Method} {c : Code} {X : WX} (C : Amb 43 X p s m args meth c cX12_back 2 RX12) (hr : meth.sig.returnType = some .int) {R : Int32 × St} {n : Nat} : ∀ (k : Nat) (st : St) (v1 : Int32) (H : Heap) (locs : List Loc) (ls : Array Slot), Wd EM 43 X s.heap st H locs → lv_has ls 2 [(0, .ref (xq X 0)), (1, .int v1)] → fX12_back_92 n k st v1 = some R → W p l e { frames := 0, cells := 0, slots := 0, locals := 0 } s m args below meth c H locs 0 0 (QI EM 43 X R.1 R.2 below args s) (F0 m 92 ls []) := by
  obtain ⟨hx, hb, hml, hown, hts⟩ := id C.1
  intro k
  induction k with
  | zero => intro st v1 H locs ls  hw hl hf; exact absurd (show none = some R from hf) (fun z => by cases z)
  | succ k ih =>
    intro st v1 H locs ls  hw hl hf
    rw [fX12_back_92] at hf
    refine lv_iload_n hx hb dX12_back_92 rfl (lv_at hl 1 rfl) ?_
    refine lv_iconst (v := 4) hx hb dX12_back_93 (by decide) ?_
    refine lv_icmp_ge (tgt := 115) hx hb dX12_back_94 (by decide) (fun c23 => ?_) (fun c23 => ?_)
    · replace hf := ite_t hf c23
      refine lv_aload_n hx hb dX12_back_115 rfl (lv_at hl 0 rfl) ?_
      refine w_get (T := TX12) C hw (by decide) 43 kf_X12_106 (EM_0 X _ _) rfl inA12 (by decide) rfl dX12_back_116 ?_
      refine lv_iconst (v := 0) hx hb dX12_back_119 (by decide) ?_
      refine w_iald C hw (by decide) (EM_32 X _ _) (by decide) (show (0 : Int32).toNatClampNeg = 0 by decide) dX12_back_120 ?_
      exact w_iret C hw hr (so2 hf).1 (so2 hf).2 dX12_back_121
    · replace hf := ite_f hf c23
      refine lv_aload_n hx hb dX12_back_97 rfl (lv_at hl 0 rfl) ?_
      refine w_get (T := TX12) C hw (by decide) 43 kf_X12_106 (EM_0 X _ _) rfl inA12 (by decide) rfl dX12_back_98 ?_
      refine lv_iload_n hx hb dX12_back_101 rfl (lv_at hl 1 rfl) ?_
      refine lv_aload_n hx hb dX12_back_102 rfl (lv_at hl 0 rfl) ?_
      refine w_get (T := TX12) C hw (by decide) 49 kf_X12_118 (EM_0 X _ _) rfl inA12 (by decide) rfl dX12_back_103 ?_
      refine lv_iload_n hx hb dX12_back_106 rfl (lv_at hl 1 rfl) ?_
      obtain ⟨h24, hf⟩ := gd_some hf
      refine w_iald C hw (by decide) (EM_36 X _ _) h24 rfl dX12_back_107 ?_
      obtain ⟨h25, hf⟩ := gd_some hf
      obtain ⟨st26, es27⟩ : ∃ z : St, z = sI st 32 v1.toNatClampNeg (gI st 36 v1.toNatClampNeg) := ⟨_, rfl⟩
      replace hf := bnd_nm hf es27
      refine w_iast C hw (by decide) (fun f9 => EM_32 X f9 _) h25 rfl dX12_back_108 (fun H locs hw => ?_)
      rw [← es27] at hw
      obtain ⟨x28, e29⟩ : ∃ z : Int32, z = v1 + (1 : Int32) := ⟨_, rfl⟩
      replace hf := bnd_nm hf e29
      refine lv_iinc (v := x28) (lv' := [(1, .int x28), (0, .ref (xq X 0))]) hx hb dX12_back_109 hl (k := 1) rfl (by rw [e29]; rfl) (by decide) rfl (fun ls hl => ?_)
      refine lv_goto (tgt := 92) hx hb dX12_back_112 (by decide) ?_
      exact ih st26 x28 _ _ _ hw (lv_sub hl [1, 0] rfl) hf
def fX12_back_64 (n : Nat) : Nat → St → Int32 → Option (Int32 × St)
  | 0, _, _ => none
  | k + 1, st, v1 => if gI st 0 45 ≤ v1 then (fX12_back_92 n n st (0 : Int32)) else (gd (inB v1 8) (gd (inB v1 8) (bnd (sI st 5 v1.toNatClampNeg (gI st 35 v1.toNatClampNeg)) (fun st19 => bnd (v1 + (1 : Int32)) (fun x21 => fX12_back_64 n k st19 x21)))))
set_option maxHeartbeats 4000000 in
theorem tX12_back_64 {p : Program} {l : Launch} {e : Env} {s : State} {m : MethodId} {args : Array Value} {below : List Frame} {meth : Method} {c : Code} {X : WX} (C : Amb 43 X p s m args meth c cX12_back 2 RX12) (hr : meth.sig.returnType = some .int) {R : Int32 × St} {n : Nat} : ∀ (k : Nat) (st : St) (v1 : Int32) (H : Heap) (locs : List Loc) (ls : Array Slot), Wd EM 43 X s.heap st H locs → lv_has ls 2 [(0, .ref (xq X 0)), (1, .int v1)] → fX12_back_64 n k st v1 = some R → W p l e { frames := 0, cells := 0, slots := 0, locals := 0 } s m args below meth c H locs 0 0 (QI EM 43 X R.1 R.2 below args s) (F0 m 64 ls []) := by
  obtain ⟨hx, hb, hml, hown, hts⟩ := id C.1
  intro k
  induction k with
  | zero => intro st v1 H locs ls  hw hl hf; exact absurd (show none = some R from hf) (fun z => by cases z)
  | succ k ih =>
    intro st v1 H locs ls  hw hl hf
    rw [fX12_back_64] at hf
    refine lv_iload_n hx hb dX12_back_64 rfl (lv_at hl 1 rfl) ?_
    refine lv_aload_n hx hb dX12_back_65 rfl (lv_at hl 0 rfl) ?_
    refine w_get (T := TX12) C hw (by decide) 45 kf_X12_402 (EM_0 X _ _) rfl inA12 (by decide) rfl dX12_back_66 ?_
    refine lv_icmp_ge (tgt := 90) hx hb dX12_back_69 (by decide) (fun c16 => ?_) (fun c16 => ?_)
    · replace hf := ite_t hf c16
      refine lv_iconst (v := 0) hx hb dX12_back_90 (by decide) ?_
      refine lv_istore_n (lv' := [(1, .int (0 : Int32)), (0, .ref (xq X 0))]) hx hb dX12_back_91 rfl hl (by decide) rfl (fun ls hl => ?_)
      exact tX12_back_92 C hr n st (0 : Int32) _ _ _ hw (lv_sub hl [1, 0] rfl) hf
    · replace hf := ite_f hf c16
      refine lv_aload_n hx hb dX12_back_72 rfl (lv_at hl 0 rfl) ?_
      refine w_get (T := TX12) C hw (by decide) 6 kf_X12_22 (EM_0 X _ _) rfl inA12 (by decide) rfl dX12_back_73 ?_
      refine lv_iload_n hx hb dX12_back_76 rfl (lv_at hl 1 rfl) ?_
      refine lv_aload_n hx hb dX12_back_77 rfl (lv_at hl 0 rfl) ?_
      refine w_get (T := TX12) C hw (by decide) 48 kf_X12_115 (EM_0 X _ _) rfl inA12 (by decide) rfl dX12_back_78 ?_
      refine lv_iload_n hx hb dX12_back_81 rfl (lv_at hl 1 rfl) ?_
      obtain ⟨h17, hf⟩ := gd_some hf
      refine w_iald C hw (by decide) (EM_35 X _ _) h17 rfl dX12_back_82 ?_
      obtain ⟨h18, hf⟩ := gd_some hf
      obtain ⟨st19, es20⟩ : ∃ z : St, z = sI st 5 v1.toNatClampNeg (gI st 35 v1.toNatClampNeg) := ⟨_, rfl⟩
      replace hf := bnd_nm hf es20
      refine w_iast C hw (by decide) (fun f9 => EM_5 X f9 _) h18 rfl dX12_back_83 (fun H locs hw => ?_)
      rw [← es20] at hw
      obtain ⟨x21, e22⟩ : ∃ z : Int32, z = v1 + (1 : Int32) := ⟨_, rfl⟩
      replace hf := bnd_nm hf e22
      refine lv_iinc (v := x21) (lv' := [(1, .int x21), (0, .ref (xq X 0))]) hx hb dX12_back_84 hl (k := 1) rfl (by rw [e22]; rfl) (by decide) rfl (fun ls hl => ?_)
      refine lv_goto (tgt := 64) hx hb dX12_back_87 (by decide) ?_
      exact ih st19 x21 _ _ _ hw (lv_sub hl [1, 0] rfl) hf
def fX12_back_38 (n : Nat) : Nat → St → Int32 → Option (Int32 × St)
  | 0, _, _ => none
  | k + 1, st, v1 => if (36 : Int32) ≤ v1 then (fX12_back_64 n n st (0 : Int32)) else (gd (inB v1 36) (gd (inB v1 36) (bnd (sI st 31 v1.toNatClampNeg (gI st 34 v1.toNatClampNeg)) (fun st12 => bnd (v1 + (1 : Int32)) (fun x14 => fX12_back_38 n k st12 x14)))))
set_option maxHeartbeats 4000000 in
theorem tX12_back_38 {p : Program} {l : Launch} {e : Env} {s : State} {m : MethodId} {args : Array Value} {below : List Frame} {meth : Method} {c : Code} {X : WX} (C : Amb 43 X p s m args meth c cX12_back 2 RX12) (hr : meth.sig.returnType = some .int) {R : Int32 × St} {n : Nat} : ∀ (k : Nat) (st : St) (v1 : Int32) (H : Heap) (locs : List Loc) (ls : Array Slot), Wd EM 43 X s.heap st H locs → lv_has ls 2 [(0, .ref (xq X 0)), (1, .int v1)] → fX12_back_38 n k st v1 = some R → W p l e { frames := 0, cells := 0, slots := 0, locals := 0 } s m args below meth c H locs 0 0 (QI EM 43 X R.1 R.2 below args s) (F0 m 38 ls []) := by
  obtain ⟨hx, hb, hml, hown, hts⟩ := id C.1
  intro k
  induction k with
  | zero => intro st v1 H locs ls  hw hl hf; exact absurd (show none = some R from hf) (fun z => by cases z)
  | succ k ih =>
    intro st v1 H locs ls  hw hl hf
    rw [fX12_back_38] at hf
    refine lv_iload_n hx hb dX12_back_38 rfl (lv_at hl 1 rfl) ?_
    refine lv_bipush (v := 36) hx hb dX12_back_39 (by decide) ?_
    refine lv_icmp_ge (tgt := 62) hx hb dX12_back_41 (by decide) (fun c9 => ?_) (fun c9 => ?_)
    · replace hf := ite_t hf c9
      refine lv_iconst (v := 0) hx hb dX12_back_62 (by decide) ?_
      refine lv_istore_n (lv' := [(1, .int (0 : Int32)), (0, .ref (xq X 0))]) hx hb dX12_back_63 rfl hl (by decide) rfl (fun ls hl => ?_)
      exact tX12_back_64 C hr n st (0 : Int32) _ _ _ hw (lv_sub hl [1, 0] rfl) hf
    · replace hf := ite_f hf c9
      refine lv_aload_n hx hb dX12_back_44 rfl (lv_at hl 0 rfl) ?_
      refine w_get (T := TX12) C hw (by decide) 42 kf_X12_103 (EM_0 X _ _) rfl inA12 (by decide) rfl dX12_back_45 ?_
      refine lv_iload_n hx hb dX12_back_48 rfl (lv_at hl 1 rfl) ?_
      refine lv_aload_n hx hb dX12_back_49 rfl (lv_at hl 0 rfl) ?_
      refine w_get (T := TX12) C hw (by decide) 47 kf_X12_112 (EM_0 X _ _) rfl inA12 (by decide) rfl dX12_back_50 ?_
      refine lv_iload_n hx hb dX12_back_53 rfl (lv_at hl 1 rfl) ?_
      obtain ⟨h10, hf⟩ := gd_some hf
      refine w_iald C hw (by decide) (EM_34 X _ _) h10 rfl dX12_back_54 ?_
      obtain ⟨h11, hf⟩ := gd_some hf
      obtain ⟨st12, es13⟩ : ∃ z : St, z = sI st 31 v1.toNatClampNeg (gI st 34 v1.toNatClampNeg) := ⟨_, rfl⟩
      replace hf := bnd_nm hf es13
      refine w_iast C hw (by decide) (fun f9 => EM_31 X f9 _) h11 rfl dX12_back_55 (fun H locs hw => ?_)
      rw [← es13] at hw
      obtain ⟨x14, e15⟩ : ∃ z : Int32, z = v1 + (1 : Int32) := ⟨_, rfl⟩
      replace hf := bnd_nm hf e15
      refine lv_iinc (v := x14) (lv' := [(1, .int x14), (0, .ref (xq X 0))]) hx hb dX12_back_56 hl (k := 1) rfl (by rw [e15]; rfl) (by decide) rfl (fun ls hl => ?_)
      refine lv_goto (tgt := 38) hx hb dX12_back_59 (by decide) ?_
      exact ih st12 x14 _ _ _ hw (lv_sub hl [1, 0] rfl) hf
def fX12_back_12 (n : Nat) : Nat → St → Int32 → Option (Int32 × St)
  | 0, _, _ => none
  | k + 1, st, v1 => if (10 : Int32) ≤ v1 then (fX12_back_38 n n st (0 : Int32)) else (gd (inB v1 11) (gd (inB v1 11) (bnd (sI st 30 v1.toNatClampNeg (vp_nar .boolean (gI st 33 v1.toNatClampNeg))) (fun st5 => bnd (v1 + (1 : Int32)) (fun x7 => fX12_back_12 n k st5 x7)))))
set_option maxHeartbeats 4000000 in
theorem tX12_back_12 {p : Program} {l : Launch} {e : Env} {s : State} {m : MethodId} {args : Array Value} {below : List Frame} {meth : Method} {c : Code} {X : WX} (C : Amb 43 X p s m args meth c cX12_back 2 RX12) (hr : meth.sig.returnType = some .int) {R : Int32 × St} {n : Nat} : ∀ (k : Nat) (st : St) (v1 : Int32) (H : Heap) (locs : List Loc) (ls : Array Slot), Wd EM 43 X s.heap st H locs → lv_has ls 2 [(0, .ref (xq X 0)), (1, .int v1)] → fX12_back_12 n k st v1 = some R → W p l e { frames := 0, cells := 0, slots := 0, locals := 0 } s m args below meth c H locs 0 0 (QI EM 43 X R.1 R.2 below args s) (F0 m 12 ls []) := by
  obtain ⟨hx, hb, hml, hown, hts⟩ := id C.1
  intro k
  induction k with
  | zero => intro st v1 H locs ls  hw hl hf; exact absurd (show none = some R from hf) (fun z => by cases z)
  | succ k ih =>
    intro st v1 H locs ls  hw hl hf
    rw [fX12_back_12] at hf
    refine lv_iload_n hx hb dX12_back_12 rfl (lv_at hl 1 rfl) ?_
    refine lv_bipush (v := 10) hx hb dX12_back_13 (by decide) ?_
    refine lv_icmp_ge (tgt := 36) hx hb dX12_back_15 (by decide) (fun c2 => ?_) (fun c2 => ?_)
    · replace hf := ite_t hf c2
      refine lv_iconst (v := 0) hx hb dX12_back_36 (by decide) ?_
      refine lv_istore_n (lv' := [(1, .int (0 : Int32)), (0, .ref (xq X 0))]) hx hb dX12_back_37 rfl hl (by decide) rfl (fun ls hl => ?_)
      exact tX12_back_38 C hr n st (0 : Int32) _ _ _ hw (lv_sub hl [1, 0] rfl) hf
    · replace hf := ite_f hf c2
      refine lv_aload_n hx hb dX12_back_18 rfl (lv_at hl 0 rfl) ?_
      refine w_get (T := TX12) C hw (by decide) 41 kf_X12_99 (EM_0 X _ _) rfl inA12 (by decide) rfl dX12_back_19 ?_
      refine lv_iload_n hx hb dX12_back_22 rfl (lv_at hl 1 rfl) ?_
      refine lv_aload_n hx hb dX12_back_23 rfl (lv_at hl 0 rfl) ?_
      refine w_get (T := TX12) C hw (by decide) 46 kf_X12_109 (EM_0 X _ _) rfl inA12 (by decide) rfl dX12_back_24 ?_
      refine lv_iload_n hx hb dX12_back_27 rfl (lv_at hl 1 rfl) ?_
      obtain ⟨h3, hf⟩ := gd_some hf
      refine w_zald C hw (by decide) (EM_33 X _ _) h3 rfl dX12_back_28 ?_
      obtain ⟨h4, hf⟩ := gd_some hf
      obtain ⟨st5, es6⟩ : ∃ z : St, z = sI st 30 v1.toNatClampNeg (vp_nar .boolean (gI st 33 v1.toNatClampNeg)) := ⟨_, rfl⟩
      replace hf := bnd_nm hf es6
      refine w_zast C hw (by decide) (fun f9 => EM_30 X f9 _) h4 rfl dX12_back_29 (fun H locs hw => ?_)
      rw [← es6] at hw
      obtain ⟨x7, e8⟩ : ∃ z : Int32, z = v1 + (1 : Int32) := ⟨_, rfl⟩
      replace hf := bnd_nm hf e8
      refine lv_iinc (v := x7) (lv' := [(1, .int x7), (0, .ref (xq X 0))]) hx hb dX12_back_30 hl (k := 1) rfl (by rw [e8]; rfl) (by decide) rfl (fun ls hl => ?_)
      refine lv_goto (tgt := 12) hx hb dX12_back_33 (by decide) ?_
      exact ih st5 x7 _ _ _ hw (lv_sub hl [1, 0] rfl) hf
def fX12_back (n : Nat) (st : St) : Option (Int32 × St) := if gI st 0 44 = 0 then (some ((-5 : Int32), st)) else (fX12_back_12 n n st (0 : Int32))
set_option maxHeartbeats 4000000 in
theorem zX12_back (l : Launch) (X : WX) (n : Nat) (st : St)  (R : Int32 × St) (hf : fX12_back n st = some R) : CtI l yX12_back cX12_back 2 .int ({ frames := 0, cells := 0, slots := 0, locals := 0 }) EM 43 X [.ref (xq X 0)] st R.1 R.2 := by
  refine ct_in (own := RX12) (by decide +kernel) rfl (Nat.le_of_ble_eq_true rfl) (fun p e s m below meth c C hr hw ls hl => ?_)
  obtain ⟨hx, hb, hml, hown, hts⟩ := id C.1
  have hl : lv_has ls 2 [(0, .ref (xq X 0))] := hl
  unfold fX12_back at hf
  refine lv_aload_n hx hb dX12_back_0 rfl (lv_at hl 0 rfl) ?_
  refine w_get (T := TX12) C hw (by decide) 44 kf_X12_399 (EM_0 X _ _) rfl inA12 (by decide) rfl dX12_back_1 ?_
  refine lv_if_ne (tgt := 10) hx hb dX12_back_4 (by decide) (fun c1 => ?_) (fun c1 => ?_)
  · replace hf := ite_f hf c1
    refine lv_iconst (v := 0) hx hb dX12_back_10 (by decide) ?_
    refine lv_istore_n (lv' := [(1, .int (0 : Int32)), (0, .ref (xq X 0))]) hx hb dX12_back_11 rfl hl (by decide) rfl (fun ls hl => ?_)
    exact tX12_back_12 C hr n st (0 : Int32) _ _ _ hw (lv_sub hl [1, 0] rfl) hf
  · replace hf := ite_t hf c1
    refine lv_bipush (v := -5) hx hb dX12_back_7 (by decide) ?_
    exact w_iret C hw hr (so2 hf).1 (so2 hf).2 dX12_back_9
theorem dX12_isBody_0 : decode cX12_isBody 0 = .ok (.iload_n 1, 1) := by decide +kernel
theorem dX12_isBody_1 : decode cX12_isBody 1 = .ok (.iconst 0, 1) := by decide +kernel
theorem dX12_isBody_2 : decode cX12_isBody 2 = .ok (.aload_n 0, 1) := by decide +kernel
theorem dX12_isBody_3 : decode cX12_isBody 3 = .ok (.getfield 405, 3) := by decide +kernel
theorem dX12_isBody_6 : decode cX12_isBody 6 = .ok (.iconst 1, 1) := by decide +kernel
theorem dX12_isBody_7 : decode cX12_isBody 7 = .ok (.isub, 1) := by decide +kernel
theorem dX12_isBody_8 : decode cX12_isBody 8 = .ok (.invokestatic 147, 3) := by decide +kernel
theorem dX12_isBody_11 : decode cX12_isBody 11 = .ok (.ireturn, 1) := by decide +kernel
theorem ok_yX12_isBody : yOk yX12_isBody 1 := ⟨by decide +kernel, by decide +kernel, by decide +kernel⟩
def fX12_isBody (st : St) (a1 : Int32) : Bool := (fX12_in a1 (0 : Int32) ((gI st 0 50) - (1 : Int32)))
set_option maxHeartbeats 4000000 in
theorem zX12_isBody (l : Launch) (X : WX) (st : St) (a1 : Int32) : CtI l yX12_isBody cX12_isBody 2 .boolean ({ frames := 1, cells := 0, slots := 0, locals := 22 }) EM 43 X [.ref (xq X 0), .int a1] st (bI (fX12_isBody st a1)) st := by
  generalize hf : fX12_isBody st a1 = R
  refine ct_in (own := RX12) (by decide +kernel) rfl (Nat.le_of_ble_eq_true rfl) (fun p e s m below meth c C hr hw ls hl => ?_)
  obtain ⟨hx, hb, hml, hown, hts⟩ := id C.1
  have hl : lv_has ls 2 [(0, .ref (xq X 0)), (1, .int a1)] := hl
  unfold fX12_isBody at hf
  refine lv_iload_n hx hb dX12_isBody_0 rfl (lv_at hl 1 rfl) ?_
  refine lv_iconst (v := 0) hx hb dX12_isBody_1 (by decide) ?_
  refine lv_aload_n hx hb dX12_isBody_2 rfl (lv_at hl 0 rfl) ?_
  refine w_get (T := TX12) C hw (by decide) 50 kf_X12_405 (EM_0 X _ _) rfl inA12 (by decide) rfl dX12_isBody_3 ?_
  refine lv_iconst (v := 1) hx hb dX12_isBody_6 (by decide) ?_
  refine lv_isub hx hb dX12_isBody_7 ?_
  refine w_goI hw (w_runS (rest := []) C hw (zX12_in _ _ st a1 (0 : Int32) ((gI st 0 50) - (1 : Int32))) km_X12_147 kt_yX12_in kz_X12 kc_X12_in ok_yX12_in ⟨Nat.le_of_ble_eq_true rfl, Nat.le_of_ble_eq_true rfl⟩ rfl rfl rfl rfl hl.1 (Nat.le_of_ble_eq_true rfl) dX12_isBody_8 ⟨Nat.zero_le _, Nat.zero_le _⟩) (fun H locs hw => ?_)
  exact w_zret (b := (fX12_in a1 (0 : Int32) ((gI st 0 50) - (1 : Int32)))) C hw hr rfl hf rfl dX12_isBody_11
theorem dX12_ran_0 : decode cX12_ran 0 = .ok (.aload_n 0, 1) := by decide +kernel
theorem dX12_ran_1 : decode cX12_ran 1 = .ok (.getfield 408, 3) := by decide +kernel
theorem dX12_ran_4 : decode cX12_ran 4 = .ok (.bipush 24, 2) := by decide +kernel
theorem dX12_ran_6 : decode cX12_ran 6 = .ok (.if_icmp .ge 13, 3) := by decide +kernel
theorem dX12_ran_9 : decode cX12_ran 9 = .ok (.aload_n 0, 1) := by decide +kernel
theorem dX12_ran_10 : decode cX12_ran 10 = .ok (.getfield 124, 3) := by decide +kernel
theorem dX12_ran_13 : decode cX12_ran 13 = .ok (.aload_n 0, 1) := by decide +kernel
theorem dX12_ran_14 : decode cX12_ran 14 = .ok (.getfield 408, 3) := by decide +kernel
theorem dX12_ran_17 : decode cX12_ran 17 = .ok (.iload_n 1, 1) := by decide +kernel
theorem dX12_ran_18 : decode cX12_ran 18 = .ok (.iastore, 1) := by decide +kernel
theorem dX12_ran_19 : decode cX12_ran 19 = .ok (.aload_n 0, 1) := by decide +kernel
theorem dX12_ran_20 : decode cX12_ran 20 = .ok (.dup, 1) := by decide +kernel
theorem dX12_ran_21 : decode cX12_ran 21 = .ok (.getfield 408, 3) := by decide +kernel
theorem dX12_ran_24 : decode cX12_ran 24 = .ok (.iconst 1, 1) := by decide +kernel
theorem dX12_ran_25 : decode cX12_ran 25 = .ok (.iadd, 1) := by decide +kernel
theorem dX12_ran_26 : decode cX12_ran 26 = .ok (.putfield 408, 3) := by decide +kernel
theorem dX12_ran_29 : decode cX12_ran 29 = .ok (.return_, 1) := by decide +kernel
theorem ok_yX12_ran : yOk yX12_ran 1 := ⟨by decide +kernel, by decide +kernel, by decide +kernel⟩
def fX12_ran (st : St) (a1 : Int32) : Option (St) := if (24 : Int32) ≤ gI st 0 52 then (bnd (sI st 0 52 ((gI st 0 52) + (1 : Int32))) (fun st2 => some st2)) else (gd (inB (gI st 0 52) 24) (bnd (sI st 38 (gI st 0 52).toNatClampNeg a1) (fun st5 => bnd (sI st5 0 52 ((gI st5 0 52) + (1 : Int32))) (fun st7 => some st7))))
set_option maxHeartbeats 4000000 in
theorem zX12_ran (l : Launch) (X : WX) (st : St) (a1 : Int32) (R : St) (hf : fX12_ran st a1 = some R) : CtV l yX12_ran cX12_ran 2 ({ frames := 0, cells := 0, slots := 0, locals := 0 }) EM 43 X [.ref (xq X 0), .int a1] st R := by
  refine ct_in (own := RX12) (by decide +kernel) rfl (Nat.le_of_ble_eq_true rfl) (fun p e s m below meth c C hr hw ls hl => ?_)
  obtain ⟨hx, hb, hml, hown, hts⟩ := id C.1
  have hl : lv_has ls 2 [(0, .ref (xq X 0)), (1, .int a1)] := hl
  unfold fX12_ran at hf
  refine lv_aload_n hx hb dX12_ran_0 rfl (lv_at hl 0 rfl) ?_
  refine w_get (T := TX12) C hw (by decide) 52 kf_X12_408 (EM_0 X _ _) rfl inA12 (by decide) rfl dX12_ran_1 ?_
  refine lv_bipush (v := 24) hx hb dX12_ran_4 (by decide) ?_
  refine lv_icmp_ge (tgt := 19) hx hb dX12_ran_6 (by decide) (fun c1 => ?_) (fun c1 => ?_)
  · replace hf := ite_t hf c1
    refine lv_aload_n hx hb dX12_ran_19 rfl (lv_at hl 0 rfl) ?_
    refine lv_dup hx hb dX12_ran_20 rfl ?_
    refine w_get (T := TX12) C hw (by decide) 52 kf_X12_408 (EM_0 X _ _) rfl inA12 (by decide) rfl dX12_ran_21 ?_
    refine lv_iconst (v := 1) hx hb dX12_ran_24 (by decide) ?_
    refine lv_iadd hx hb dX12_ran_25 ?_
    obtain ⟨st2, es3⟩ : ∃ z : St, z = sI st 0 52 ((gI st 0 52) + (1 : Int32)) := ⟨_, rfl⟩
    replace hf := bnd_nm hf es3
    refine w_puti (T := TX12) C hw (by decide) 52 kf_X12_408 (EM_0 X _ _) rfl inA12 tyX12_ok nmX12 (by decide) rfl rfl (Nat.le_of_ble_eq_true rfl) rfl dX12_ran_26 (fun H locs hw => ?_)
    rw [← es3] at hw
    exact w_vret C hw hr (Option.some.inj hf) dX12_ran_29
  · replace hf := ite_f hf c1
    refine lv_aload_n hx hb dX12_ran_9 rfl (lv_at hl 0 rfl) ?_
    refine w_get (T := TX12) C hw (by decide) 53 kf_X12_124 (EM_0 X _ _) rfl inA12 (by decide) rfl dX12_ran_10 ?_
    refine lv_aload_n hx hb dX12_ran_13 rfl (lv_at hl 0 rfl) ?_
    refine w_get (T := TX12) C hw (by decide) 52 kf_X12_408 (EM_0 X _ _) rfl inA12 (by decide) rfl dX12_ran_14 ?_
    refine lv_iload_n hx hb dX12_ran_17 rfl (lv_at hl 1 rfl) ?_
    obtain ⟨h4, hf⟩ := gd_some hf
    obtain ⟨st5, es6⟩ : ∃ z : St, z = sI st 38 (gI st 0 52).toNatClampNeg a1 := ⟨_, rfl⟩
    replace hf := bnd_nm hf es6
    refine w_iast C hw (by decide) (fun f9 => EM_38 X f9 _) h4 rfl dX12_ran_18 (fun H locs hw => ?_)
    rw [← es6] at hw
    refine lv_aload_n hx hb dX12_ran_19 rfl (lv_at hl 0 rfl) ?_
    refine lv_dup hx hb dX12_ran_20 rfl ?_
    refine w_get (T := TX12) C hw (by decide) 52 kf_X12_408 (EM_0 X _ _) rfl inA12 (by decide) rfl dX12_ran_21 ?_
    refine lv_iconst (v := 1) hx hb dX12_ran_24 (by decide) ?_
    refine lv_iadd hx hb dX12_ran_25 ?_
    obtain ⟨st7, es8⟩ : ∃ z : St, z = sI st5 0 52 ((gI st5 0 52) + (1 : Int32)) := ⟨_, rfl⟩
    replace hf := bnd_nm hf es8
    refine w_puti (T := TX12) C hw (by decide) 52 kf_X12_408 (EM_0 X _ _) rfl inA12 tyX12_ok nmX12 (by decide) rfl rfl (Nat.le_of_ble_eq_true rfl) rfl dX12_ran_26 (fun H locs hw => ?_)
    rw [← es8] at hw
    exact w_vret C hw hr (Option.some.inj hf) dX12_ran_29
theorem dX12_trace_0 : decode cX12_trace 0 = .ok (.iload_n 1, 1) := by decide +kernel
theorem dX12_trace_1 : decode cX12_trace 1 = .ok (.ifCond .lt 26, 3) := by decide +kernel
theorem dX12_trace_4 : decode cX12_trace 4 = .ok (.iload_n 1, 1) := by decide +kernel
theorem dX12_trace_5 : decode cX12_trace 5 = .ok (.aload_n 0, 1) := by decide +kernel
theorem dX12_trace_6 : decode cX12_trace 6 = .ok (.getfield 408, 3) := by decide +kernel
theorem dX12_trace_9 : decode cX12_trace 9 = .ok (.if_icmp .ge 18, 3) := by decide +kernel
theorem dX12_trace_12 : decode cX12_trace 12 = .ok (.iload_n 1, 1) := by decide +kernel
theorem dX12_trace_13 : decode cX12_trace 13 = .ok (.bipush 24, 2) := by decide +kernel
theorem dX12_trace_15 : decode cX12_trace 15 = .ok (.if_icmp .ge 12, 3) := by decide +kernel
theorem dX12_trace_18 : decode cX12_trace 18 = .ok (.aload_n 0, 1) := by decide +kernel
theorem dX12_trace_19 : decode cX12_trace 19 = .ok (.getfield 124, 3) := by decide +kernel
theorem dX12_trace_22 : decode cX12_trace 22 = .ok (.iload_n 1, 1) := by decide +kernel
theorem dX12_trace_23 : decode cX12_trace 23 = .ok (.iaload, 1) := by decide +kernel
theorem dX12_trace_24 : decode cX12_trace 24 = .ok (.goto 4, 3) := by decide +kernel
theorem dX12_trace_27 : decode cX12_trace 27 = .ok (.iconst (-1), 1) := by decide +kernel
theorem dX12_trace_28 : decode cX12_trace 28 = .ok (.ireturn, 1) := by decide +kernel
theorem ok_yX12_trace : yOk yX12_trace 1 := ⟨by decide +kernel, by decide +kernel, by decide +kernel⟩
def fX12_trace (st : St) (a1 : Int32) : Option (Int32) := if a1 < 0 then (some (-1 : Int32)) else (if gI st 0 52 ≤ a1 then (some (-1 : Int32)) else (if (24 : Int32) ≤ a1 then (some (-1 : Int32)) else (gd (inB a1 24) (some (gI st 38 a1.toNatClampNeg)))))
set_option maxHeartbeats 4000000 in
theorem zX12_trace (l : Launch) (X : WX) (st : St) (a1 : Int32) (R : Int32) (hf : fX12_trace st a1 = some R) : CtI l yX12_trace cX12_trace 2 .int ({ frames := 0, cells := 0, slots := 0, locals := 0 }) EM 43 X [.ref (xq X 0), .int a1] st R st := by
  refine ct_in (own := RX12) (by decide +kernel) rfl (Nat.le_of_ble_eq_true rfl) (fun p e s m below meth c C hr hw ls hl => ?_)
  obtain ⟨hx, hb, hml, hown, hts⟩ := id C.1
  have hl : lv_has ls 2 [(0, .ref (xq X 0)), (1, .int a1)] := hl
  unfold fX12_trace at hf
  refine lv_iload_n hx hb dX12_trace_0 rfl (lv_at hl 1 rfl) ?_
  refine lv_if_lt (tgt := 27) hx hb dX12_trace_1 (by decide) (fun c1 => ?_) (fun c1 => ?_)
  · replace hf := ite_t hf c1
    refine lv_iconst (v := -1) hx hb dX12_trace_27 (by decide) ?_
    exact w_iret C hw hr (Option.some.inj hf) rfl dX12_trace_28
  · replace hf := ite_f hf c1
    refine lv_iload_n hx hb dX12_trace_4 rfl (lv_at hl 1 rfl) ?_
    refine lv_aload_n hx hb dX12_trace_5 rfl (lv_at hl 0 rfl) ?_
    refine w_get (T := TX12) C hw (by decide) 52 kf_X12_408 (EM_0 X _ _) rfl inA12 (by decide) rfl dX12_trace_6 ?_
    refine lv_icmp_ge (tgt := 27) hx hb dX12_trace_9 (by decide) (fun c2 => ?_) (fun c2 => ?_)
    · replace hf := ite_t hf c2
      refine lv_iconst (v := -1) hx hb dX12_trace_27 (by decide) ?_
      exact w_iret C hw hr (Option.some.inj hf) rfl dX12_trace_28
    · replace hf := ite_f hf c2
      refine lv_iload_n hx hb dX12_trace_12 rfl (lv_at hl 1 rfl) ?_
      refine lv_bipush (v := 24) hx hb dX12_trace_13 (by decide) ?_
      refine lv_icmp_ge (tgt := 27) hx hb dX12_trace_15 (by decide) (fun c3 => ?_) (fun c3 => ?_)
      · replace hf := ite_t hf c3
        refine lv_iconst (v := -1) hx hb dX12_trace_27 (by decide) ?_
        exact w_iret C hw hr (Option.some.inj hf) rfl dX12_trace_28
      · replace hf := ite_f hf c3
        refine lv_aload_n hx hb dX12_trace_18 rfl (lv_at hl 0 rfl) ?_
        refine w_get (T := TX12) C hw (by decide) 53 kf_X12_124 (EM_0 X _ _) rfl inA12 (by decide) rfl dX12_trace_19 ?_
        refine lv_iload_n hx hb dX12_trace_22 rfl (lv_at hl 1 rfl) ?_
        obtain ⟨h4, hf⟩ := gd_some hf
        refine w_iald C hw (by decide) (EM_38 X _ _) h4 rfl dX12_trace_23 ?_
        refine lv_goto (tgt := 28) hx hb dX12_trace_24 (by decide) ?_
        exact w_iret C hw hr (Option.some.inj hf) rfl dX12_trace_28
theorem dX12_body_0 : decode cX12_body 0 = .ok (.iload_n 1, 1) := by decide +kernel
theorem dX12_body_1 : decode cX12_body 1 = .ok (.iconst 0, 1) := by decide +kernel
theorem dX12_body_2 : decode cX12_body 2 = .ok (.bipush 7, 2) := by decide +kernel
theorem dX12_body_4 : decode cX12_body 4 = .ok (.invokestatic 147, 3) := by decide +kernel
theorem dX12_body_7 : decode cX12_body 7 = .ok (.ifCond .ne 5, 3) := by decide +kernel
theorem dX12_body_10 : decode cX12_body 10 = .ok (.iconst (-1), 1) := by decide +kernel
theorem dX12_body_11 : decode cX12_body 11 = .ok (.ireturn, 1) := by decide +kernel
theorem dX12_body_12 : decode cX12_body 12 = .ok (.aload_n 0, 1) := by decide +kernel
theorem dX12_body_13 : decode cX12_body 13 = .ok (.getfield 405, 3) := by decide +kernel
theorem dX12_body_16 : decode cX12_body 16 = .ok (.bipush 50, 2) := by decide +kernel
theorem dX12_body_18 : decode cX12_body 18 = .ok (.if_icmp .ne 6, 3) := by decide +kernel
theorem dX12_body_21 : decode cX12_body 21 = .ok (.bipush (-3), 2) := by decide +kernel
theorem dX12_body_23 : decode cX12_body 23 = .ok (.ireturn, 1) := by decide +kernel
theorem dX12_body_24 : decode cX12_body 24 = .ok (.aload_n 0, 1) := by decide +kernel
theorem dX12_body_25 : decode cX12_body 25 = .ok (.getfield 121, 3) := by decide +kernel
theorem dX12_body_28 : decode cX12_body 28 = .ok (.aload_n 0, 1) := by decide +kernel
theorem dX12_body_29 : decode cX12_body 29 = .ok (.getfield 405, 3) := by decide +kernel
theorem dX12_body_32 : decode cX12_body 32 = .ok (.iload_n 1, 1) := by decide +kernel
theorem dX12_body_33 : decode cX12_body 33 = .ok (.iastore, 1) := by decide +kernel
theorem dX12_body_34 : decode cX12_body 34 = .ok (.aload_n 0, 1) := by decide +kernel
theorem dX12_body_35 : decode cX12_body 35 = .ok (.dup, 1) := by decide +kernel
theorem dX12_body_36 : decode cX12_body 36 = .ok (.getfield 405, 3) := by decide +kernel
theorem dX12_body_39 : decode cX12_body 39 = .ok (.iconst 1, 1) := by decide +kernel
theorem dX12_body_40 : decode cX12_body 40 = .ok (.iadd, 1) := by decide +kernel
theorem dX12_body_41 : decode cX12_body 41 = .ok (.putfield 405, 3) := by decide +kernel
theorem dX12_body_44 : decode cX12_body 44 = .ok (.aload_n 0, 1) := by decide +kernel
theorem dX12_body_45 : decode cX12_body 45 = .ok (.getfield 405, 3) := by decide +kernel
theorem dX12_body_48 : decode cX12_body 48 = .ok (.iconst 1, 1) := by decide +kernel
theorem dX12_body_49 : decode cX12_body 49 = .ok (.isub, 1) := by decide +kernel
theorem dX12_body_50 : decode cX12_body 50 = .ok (.ireturn, 1) := by decide +kernel
theorem ok_yX12_body : yOk yX12_body 1 := ⟨by decide +kernel, by decide +kernel, by decide +kernel⟩
def fX12_body (st : St) (a1 : Int32) : Option (Int32 × St) := if bI (fX12_in a1 (0 : Int32) (7 : Int32)) = 0 then (some ((-1 : Int32), st)) else (if gI st 0 50 = (50 : Int32) then (some ((-3 : Int32), st)) else (gd (inB (gI st 0 50) 50) (bnd (sI st 37 (gI st 0 50).toNatClampNeg a1) (fun st4 => bnd (sI st4 0 50 ((gI st4 0 50) + (1 : Int32))) (fun st6 => some (((gI st6 0 50) - (1 : Int32)), st6))))))
set_option maxHeartbeats 4000000 in
theorem zX12_body (l : Launch) (X : WX) (st : St) (a1 : Int32) (R : Int32 × St) (hf : fX12_body st a1 = some R) : CtI l yX12_body cX12_body 2 .int ({ frames := 1, cells := 0, slots := 0, locals := 22 }) EM 43 X [.ref (xq X 0), .int a1] st R.1 R.2 := by
  refine ct_in (own := RX12) (by decide +kernel) rfl (Nat.le_of_ble_eq_true rfl) (fun p e s m below meth c C hr hw ls hl => ?_)
  obtain ⟨hx, hb, hml, hown, hts⟩ := id C.1
  have hl : lv_has ls 2 [(0, .ref (xq X 0)), (1, .int a1)] := hl
  unfold fX12_body at hf
  refine lv_iload_n hx hb dX12_body_0 rfl (lv_at hl 1 rfl) ?_
  refine lv_iconst (v := 0) hx hb dX12_body_1 (by decide) ?_
  refine lv_bipush (v := 7) hx hb dX12_body_2 (by decide) ?_
  refine w_goI hw (w_runS (rest := []) C hw (zX12_in _ _ st a1 (0 : Int32) (7 : Int32)) km_X12_147 kt_yX12_in kz_X12 kc_X12_in ok_yX12_in ⟨Nat.le_of_ble_eq_true rfl, Nat.le_of_ble_eq_true rfl⟩ rfl rfl rfl rfl hl.1 (Nat.le_of_ble_eq_true rfl) dX12_body_4 ⟨Nat.zero_le _, Nat.zero_le _⟩) (fun H locs hw => ?_)
  refine lv_if_ne (tgt := 12) hx hb dX12_body_7 (by decide) (fun c1 => ?_) (fun c1 => ?_)
  · replace hf := ite_f hf c1
    refine lv_aload_n hx hb dX12_body_12 rfl (lv_at hl 0 rfl) ?_
    refine w_get (T := TX12) C hw (by decide) 50 kf_X12_405 (EM_0 X _ _) rfl inA12 (by decide) rfl dX12_body_13 ?_
    refine lv_bipush (v := 50) hx hb dX12_body_16 (by decide) ?_
    refine lv_icmp_ne (tgt := 24) hx hb dX12_body_18 (by decide) (fun c2 => ?_) (fun c2 => ?_)
    · replace hf := ite_f hf c2
      refine lv_aload_n hx hb dX12_body_24 rfl (lv_at hl 0 rfl) ?_
      refine w_get (T := TX12) C hw (by decide) 51 kf_X12_121 (EM_0 X _ _) rfl inA12 (by decide) rfl dX12_body_25 ?_
      refine lv_aload_n hx hb dX12_body_28 rfl (lv_at hl 0 rfl) ?_
      refine w_get (T := TX12) C hw (by decide) 50 kf_X12_405 (EM_0 X _ _) rfl inA12 (by decide) rfl dX12_body_29 ?_
      refine lv_iload_n hx hb dX12_body_32 rfl (lv_at hl 1 rfl) ?_
      obtain ⟨h3, hf⟩ := gd_some hf
      obtain ⟨st4, es5⟩ : ∃ z : St, z = sI st 37 (gI st 0 50).toNatClampNeg a1 := ⟨_, rfl⟩
      replace hf := bnd_nm hf es5
      refine w_iast C hw (by decide) (fun f9 => EM_37 X f9 _) h3 rfl dX12_body_33 (fun H locs hw => ?_)
      rw [← es5] at hw
      refine lv_aload_n hx hb dX12_body_34 rfl (lv_at hl 0 rfl) ?_
      refine lv_dup hx hb dX12_body_35 rfl ?_
      refine w_get (T := TX12) C hw (by decide) 50 kf_X12_405 (EM_0 X _ _) rfl inA12 (by decide) rfl dX12_body_36 ?_
      refine lv_iconst (v := 1) hx hb dX12_body_39 (by decide) ?_
      refine lv_iadd hx hb dX12_body_40 ?_
      obtain ⟨st6, es7⟩ : ∃ z : St, z = sI st4 0 50 ((gI st4 0 50) + (1 : Int32)) := ⟨_, rfl⟩
      replace hf := bnd_nm hf es7
      refine w_puti (T := TX12) C hw (by decide) 50 kf_X12_405 (EM_0 X _ _) rfl inA12 tyX12_ok nmX12 (by decide) rfl rfl (Nat.le_of_ble_eq_true rfl) rfl dX12_body_41 (fun H locs hw => ?_)
      rw [← es7] at hw
      refine lv_aload_n hx hb dX12_body_44 rfl (lv_at hl 0 rfl) ?_
      refine w_get (T := TX12) C hw (by decide) 50 kf_X12_405 (EM_0 X _ _) rfl inA12 (by decide) rfl dX12_body_45 ?_
      refine lv_iconst (v := 1) hx hb dX12_body_48 (by decide) ?_
      refine lv_isub hx hb dX12_body_49 ?_
      exact w_iret C hw hr (so2 hf).1 (so2 hf).2 dX12_body_50
    · replace hf := ite_t hf c2
      refine lv_bipush (v := -3) hx hb dX12_body_21 (by decide) ?_
      exact w_iret C hw hr (so2 hf).1 (so2 hf).2 dX12_body_23
  · replace hf := ite_t hf c1
    refine lv_iconst (v := -1) hx hb dX12_body_10 (by decide) ?_
    exact w_iret C hw hr (so2 hf).1 (so2 hf).2 dX12_body_11
theorem dX12_isUnder_0 : decode cX12_isUnder 0 = .ok (.iload_n 1, 1) := by decide +kernel
theorem dX12_isUnder_1 : decode cX12_isUnder 1 = .ok (.ifCond .eq 55, 3) := by decide +kernel
theorem dX12_isUnder_4 : decode cX12_isUnder 4 = .ok (.iload_n 0, 1) := by decide +kernel
theorem dX12_isUnder_5 : decode cX12_isUnder 5 = .ok (.iload_n 1, 1) := by decide +kernel
theorem dX12_isUnder_6 : decode cX12_isUnder 6 = .ok (.if_icmp .eq 50, 3) := by decide +kernel
theorem dX12_isUnder_9 : decode cX12_isUnder 9 = .ok (.iload_n 1, 1) := by decide +kernel
theorem dX12_isUnder_10 : decode cX12_isUnder 10 = .ok (.iconst 1, 1) := by decide +kernel
theorem dX12_isUnder_11 : decode cX12_isUnder 11 = .ok (.if_icmp .ne 8, 3) := by decide +kernel
theorem dX12_isUnder_14 : decode cX12_isUnder 14 = .ok (.iload_n 0, 1) := by decide +kernel
theorem dX12_isUnder_15 : decode cX12_isUnder 15 = .ok (.iconst 4, 1) := by decide +kernel
theorem dX12_isUnder_16 : decode cX12_isUnder 16 = .ok (.if_icmp .eq 40, 3) := by decide +kernel
theorem dX12_isUnder_19 : decode cX12_isUnder 19 = .ok (.iload_n 1, 1) := by decide +kernel
theorem dX12_isUnder_20 : decode cX12_isUnder 20 = .ok (.iconst 2, 1) := by decide +kernel
theorem dX12_isUnder_21 : decode cX12_isUnder 21 = .ok (.if_icmp .ne 13, 3) := by decide +kernel
theorem dX12_isUnder_24 : decode cX12_isUnder 24 = .ok (.iload_n 0, 1) := by decide +kernel
theorem dX12_isUnder_25 : decode cX12_isUnder 25 = .ok (.iconst 3, 1) := by decide +kernel
theorem dX12_isUnder_26 : decode cX12_isUnder 26 = .ok (.if_icmp .eq 30, 3) := by decide +kernel
theorem dX12_isUnder_29 : decode cX12_isUnder 29 = .ok (.iload_n 0, 1) := by decide +kernel
theorem dX12_isUnder_30 : decode cX12_isUnder 30 = .ok (.iconst 5, 1) := by decide +kernel
theorem dX12_isUnder_31 : decode cX12_isUnder 31 = .ok (.if_icmp .eq 25, 3) := by decide +kernel
theorem dX12_isUnder_34 : decode cX12_isUnder 34 = .ok (.iload_n 1, 1) := by decide +kernel
theorem dX12_isUnder_35 : decode cX12_isUnder 35 = .ok (.iconst 3, 1) := by decide +kernel
theorem dX12_isUnder_36 : decode cX12_isUnder 36 = .ok (.if_icmp .ne 8, 3) := by decide +kernel
theorem dX12_isUnder_39 : decode cX12_isUnder 39 = .ok (.iload_n 0, 1) := by decide +kernel
theorem dX12_isUnder_40 : decode cX12_isUnder 40 = .ok (.iconst 5, 1) := by decide +kernel
theorem dX12_isUnder_41 : decode cX12_isUnder 41 = .ok (.if_icmp .eq 15, 3) := by decide +kernel
theorem dX12_isUnder_44 : decode cX12_isUnder 44 = .ok (.iload_n 1, 1) := by decide +kernel
theorem dX12_isUnder_45 : decode cX12_isUnder 45 = .ok (.bipush 6, 2) := by decide +kernel
theorem dX12_isUnder_47 : decode cX12_isUnder 47 = .ok (.if_icmp .ne 13, 3) := by decide +kernel
theorem dX12_isUnder_50 : decode cX12_isUnder 50 = .ok (.iload_n 0, 1) := by decide +kernel
theorem dX12_isUnder_51 : decode cX12_isUnder 51 = .ok (.bipush 7, 2) := by decide +kernel
theorem dX12_isUnder_53 : decode cX12_isUnder 53 = .ok (.if_icmp .ne 7, 3) := by decide +kernel
theorem dX12_isUnder_56 : decode cX12_isUnder 56 = .ok (.iconst 1, 1) := by decide +kernel
theorem dX12_isUnder_57 : decode cX12_isUnder 57 = .ok (.goto 4, 3) := by decide +kernel
theorem dX12_isUnder_60 : decode cX12_isUnder 60 = .ok (.iconst 0, 1) := by decide +kernel
theorem dX12_isUnder_61 : decode cX12_isUnder 61 = .ok (.ireturn, 1) := by decide +kernel
theorem ok_yX12_isUnder : yOk yX12_isUnder 2 := ⟨by decide +kernel, by decide +kernel, by decide +kernel⟩
def fX12_isUnder_44 (v0 : Int32) (v1 : Int32) : Bool := if v1 = (6 : Int32) then (if v0 = (7 : Int32) then (true) else (false)) else (false)
set_option maxHeartbeats 4000000 in
theorem tX12_isUnder_44 {p : Program} {l : Launch} {e : Env} {s : State} {m : MethodId} {args : Array Value} {below : List Frame} {meth : Method} {c : Code} {X : WX} (C : Amb 43 X p s m args meth c cX12_isUnder 2 RX12) (hr : meth.sig.returnType = some .boolean) {R : Bool} {st : St} : ∀ (v0 : Int32) (v1 : Int32) (H : Heap) (locs : List Loc) (ls : Array Slot), Wd EM 43 X s.heap st H locs → lv_has ls 2 [(0, .int v0), (1, .int v1)] → fX12_isUnder_44 v0 v1 = R → W p l e { frames := 0, cells := 0, slots := 0, locals := 0 } s m args below meth c H locs 0 0 (QI EM 43 X (bI R) st below args s) (F0 m 44 ls []) := by
  obtain ⟨hx, hb, hml, hown, hts⟩ := id C.1
  intro v0 v1 H locs ls  hw hl hf
  unfold fX12_isUnder_44 at hf
  refine lv_iload_n hx hb dX12_isUnder_44 rfl (lv_at hl 1 rfl) ?_
  refine lv_bipush (v := 6) hx hb dX12_isUnder_45 (by decide) ?_
  refine lv_icmp_ne (tgt := 60) hx hb dX12_isUnder_47 (by decide) (fun c10 => ?_) (fun c10 => ?_)
  · replace hf := ite_f hf c10
    refine lv_iconst (v := 0) hx hb dX12_isUnder_60 (by decide) ?_
    exact w_zret (b := false) C hw hr rfl hf rfl dX12_isUnder_61
  · replace hf := ite_t hf c10
    refine lv_iload_n hx hb dX12_isUnder_50 rfl (lv_at hl 0 rfl) ?_
    refine lv_bipush (v := 7) hx hb dX12_isUnder_51 (by decide) ?_
    refine lv_icmp_ne (tgt := 60) hx hb dX12_isUnder_53 (by decide) (fun c11 => ?_) (fun c11 => ?_)
    · replace hf := ite_f hf c11
      refine lv_iconst (v := 0) hx hb dX12_isUnder_60 (by decide) ?_
      exact w_zret (b := false) C hw hr rfl hf rfl dX12_isUnder_61
    · replace hf := ite_t hf c11
      refine lv_iconst (v := 1) hx hb dX12_isUnder_56 (by decide) ?_
      refine lv_goto (tgt := 61) hx hb dX12_isUnder_57 (by decide) ?_
      exact w_zret (b := true) C hw hr rfl hf rfl dX12_isUnder_61
def fX12_isUnder_34 (v0 : Int32) (v1 : Int32) : Bool := if v1 = (3 : Int32) then (if v0 = (5 : Int32) then (true) else (fX12_isUnder_44 v0 v1)) else (fX12_isUnder_44 v0 v1)
set_option maxHeartbeats 4000000 in
theorem tX12_isUnder_34 {p : Program} {l : Launch} {e : Env} {s : State} {m : MethodId} {args : Array Value} {below : List Frame} {meth : Method} {c : Code} {X : WX} (C : Amb 43 X p s m args meth c cX12_isUnder 2 RX12) (hr : meth.sig.returnType = some .boolean) {R : Bool} {st : St} : ∀ (v0 : Int32) (v1 : Int32) (H : Heap) (locs : List Loc) (ls : Array Slot), Wd EM 43 X s.heap st H locs → lv_has ls 2 [(0, .int v0), (1, .int v1)] → fX12_isUnder_34 v0 v1 = R → W p l e { frames := 0, cells := 0, slots := 0, locals := 0 } s m args below meth c H locs 0 0 (QI EM 43 X (bI R) st below args s) (F0 m 34 ls []) := by
  obtain ⟨hx, hb, hml, hown, hts⟩ := id C.1
  intro v0 v1 H locs ls  hw hl hf
  unfold fX12_isUnder_34 at hf
  refine lv_iload_n hx hb dX12_isUnder_34 rfl (lv_at hl 1 rfl) ?_
  refine lv_iconst (v := 3) hx hb dX12_isUnder_35 (by decide) ?_
  refine lv_icmp_ne (tgt := 44) hx hb dX12_isUnder_36 (by decide) (fun c8 => ?_) (fun c8 => ?_)
  · replace hf := ite_f hf c8
    exact tX12_isUnder_44 C hr v0 v1 _ _ _ hw (lv_sub hl [0, 1] rfl) hf
  · replace hf := ite_t hf c8
    refine lv_iload_n hx hb dX12_isUnder_39 rfl (lv_at hl 0 rfl) ?_
    refine lv_iconst (v := 5) hx hb dX12_isUnder_40 (by decide) ?_
    refine lv_icmp_eq (tgt := 56) hx hb dX12_isUnder_41 (by decide) (fun c9 => ?_) (fun c9 => ?_)
    · replace hf := ite_t hf c9
      refine lv_iconst (v := 1) hx hb dX12_isUnder_56 (by decide) ?_
      refine lv_goto (tgt := 61) hx hb dX12_isUnder_57 (by decide) ?_
      exact w_zret (b := true) C hw hr rfl hf rfl dX12_isUnder_61
    · replace hf := ite_f hf c9
      exact tX12_isUnder_44 C hr v0 v1 _ _ _ hw (lv_sub hl [0, 1] rfl) hf
def fX12_isUnder_19 (v0 : Int32) (v1 : Int32) : Bool := if v1 = (2 : Int32) then (if v0 = (3 : Int32) then (true) else (if v0 = (5 : Int32) then (true) else (fX12_isUnder_34 v0 v1))) else (fX12_isUnder_34 v0 v1)
set_option maxHeartbeats 4000000 in
theorem tX12_isUnder_19 {p : Program} {l : Launch} {e : Env} {s : State} {m : MethodId} {args : Array Value} {below : List Frame} {meth : Method} {c : Code} {X : WX} (C : Amb 43 X p s m args meth c cX12_isUnder 2 RX12) (hr : meth.sig.returnType = some .boolean) {R : Bool} {st : St} : ∀ (v0 : Int32) (v1 : Int32) (H : Heap) (locs : List Loc) (ls : Array Slot), Wd EM 43 X s.heap st H locs → lv_has ls 2 [(0, .int v0), (1, .int v1)] → fX12_isUnder_19 v0 v1 = R → W p l e { frames := 0, cells := 0, slots := 0, locals := 0 } s m args below meth c H locs 0 0 (QI EM 43 X (bI R) st below args s) (F0 m 19 ls []) := by
  obtain ⟨hx, hb, hml, hown, hts⟩ := id C.1
  intro v0 v1 H locs ls  hw hl hf
  unfold fX12_isUnder_19 at hf
  refine lv_iload_n hx hb dX12_isUnder_19 rfl (lv_at hl 1 rfl) ?_
  refine lv_iconst (v := 2) hx hb dX12_isUnder_20 (by decide) ?_
  refine lv_icmp_ne (tgt := 34) hx hb dX12_isUnder_21 (by decide) (fun c5 => ?_) (fun c5 => ?_)
  · replace hf := ite_f hf c5
    exact tX12_isUnder_34 C hr v0 v1 _ _ _ hw (lv_sub hl [0, 1] rfl) hf
  · replace hf := ite_t hf c5
    refine lv_iload_n hx hb dX12_isUnder_24 rfl (lv_at hl 0 rfl) ?_
    refine lv_iconst (v := 3) hx hb dX12_isUnder_25 (by decide) ?_
    refine lv_icmp_eq (tgt := 56) hx hb dX12_isUnder_26 (by decide) (fun c6 => ?_) (fun c6 => ?_)
    · replace hf := ite_t hf c6
      refine lv_iconst (v := 1) hx hb dX12_isUnder_56 (by decide) ?_
      refine lv_goto (tgt := 61) hx hb dX12_isUnder_57 (by decide) ?_
      exact w_zret (b := true) C hw hr rfl hf rfl dX12_isUnder_61
    · replace hf := ite_f hf c6
      refine lv_iload_n hx hb dX12_isUnder_29 rfl (lv_at hl 0 rfl) ?_
      refine lv_iconst (v := 5) hx hb dX12_isUnder_30 (by decide) ?_
      refine lv_icmp_eq (tgt := 56) hx hb dX12_isUnder_31 (by decide) (fun c7 => ?_) (fun c7 => ?_)
      · replace hf := ite_t hf c7
        refine lv_iconst (v := 1) hx hb dX12_isUnder_56 (by decide) ?_
        refine lv_goto (tgt := 61) hx hb dX12_isUnder_57 (by decide) ?_
        exact w_zret (b := true) C hw hr rfl hf rfl dX12_isUnder_61
      · replace hf := ite_f hf c7
        exact tX12_isUnder_34 C hr v0 v1 _ _ _ hw (lv_sub hl [0, 1] rfl) hf
def fX12_isUnder (a0 : Int32) (a1 : Int32) : Bool := if a1 = 0 then (true) else (if a0 = a1 then (true) else (if a1 = (1 : Int32) then (if a0 = (4 : Int32) then (true) else (fX12_isUnder_19 a0 a1)) else (fX12_isUnder_19 a0 a1)))
set_option maxHeartbeats 4000000 in
theorem zX12_isUnder (l : Launch) (X : WX) (st : St) (a0 : Int32) (a1 : Int32) : CtI l yX12_isUnder cX12_isUnder 2 .boolean ({ frames := 0, cells := 0, slots := 0, locals := 0 }) EM 43 X [.int a0, .int a1] st (bI (fX12_isUnder a0 a1)) st := by
  generalize hf : fX12_isUnder a0 a1 = R
  refine ct_in (own := RX12) (by decide +kernel) rfl (Nat.le_of_ble_eq_true rfl) (fun p e s m below meth c C hr hw ls hl => ?_)
  obtain ⟨hx, hb, hml, hown, hts⟩ := id C.1
  have hl : lv_has ls 2 [(0, .int a0), (1, .int a1)] := hl
  unfold fX12_isUnder at hf
  refine lv_iload_n hx hb dX12_isUnder_0 rfl (lv_at hl 1 rfl) ?_
  refine lv_if_eq (tgt := 56) hx hb dX12_isUnder_1 (by decide) (fun c1 => ?_) (fun c1 => ?_)
  · replace hf := ite_t hf c1
    refine lv_iconst (v := 1) hx hb dX12_isUnder_56 (by decide) ?_
    refine lv_goto (tgt := 61) hx hb dX12_isUnder_57 (by decide) ?_
    exact w_zret (b := true) C hw hr rfl hf rfl dX12_isUnder_61
  · replace hf := ite_f hf c1
    refine lv_iload_n hx hb dX12_isUnder_4 rfl (lv_at hl 0 rfl) ?_
    refine lv_iload_n hx hb dX12_isUnder_5 rfl (lv_at hl 1 rfl) ?_
    refine lv_icmp_eq (tgt := 56) hx hb dX12_isUnder_6 (by decide) (fun c2 => ?_) (fun c2 => ?_)
    · replace hf := ite_t hf c2
      refine lv_iconst (v := 1) hx hb dX12_isUnder_56 (by decide) ?_
      refine lv_goto (tgt := 61) hx hb dX12_isUnder_57 (by decide) ?_
      exact w_zret (b := true) C hw hr rfl hf rfl dX12_isUnder_61
    · replace hf := ite_f hf c2
      refine lv_iload_n hx hb dX12_isUnder_9 rfl (lv_at hl 1 rfl) ?_
      refine lv_iconst (v := 1) hx hb dX12_isUnder_10 (by decide) ?_
      refine lv_icmp_ne (tgt := 19) hx hb dX12_isUnder_11 (by decide) (fun c3 => ?_) (fun c3 => ?_)
      · replace hf := ite_f hf c3
        exact tX12_isUnder_19 C hr a0 a1 _ _ _ hw (lv_sub hl [0, 1] rfl) hf
      · replace hf := ite_t hf c3
        refine lv_iload_n hx hb dX12_isUnder_14 rfl (lv_at hl 0 rfl) ?_
        refine lv_iconst (v := 4) hx hb dX12_isUnder_15 (by decide) ?_
        refine lv_icmp_eq (tgt := 56) hx hb dX12_isUnder_16 (by decide) (fun c4 => ?_) (fun c4 => ?_)
        · replace hf := ite_t hf c4
          refine lv_iconst (v := 1) hx hb dX12_isUnder_56 (by decide) ?_
          refine lv_goto (tgt := 61) hx hb dX12_isUnder_57 (by decide) ?_
          exact w_zret (b := true) C hw hr rfl hf rfl dX12_isUnder_61
        · replace hf := ite_f hf c4
          exact tX12_isUnder_19 C hr a0 a1 _ _ _ hw (lv_sub hl [0, 1] rfl) hf
theorem dX12_plainFalls_0 : decode cX12_plainFalls 0 = .ok (.aload_n 0, 1) := by decide +kernel
theorem dX12_plainFalls_1 : decode cX12_plainFalls 1 = .ok (.iconst 1, 1) := by decide +kernel
theorem dX12_plainFalls_2 : decode cX12_plainFalls 2 = .ok (.invokevirtual 411, 3) := by decide +kernel
theorem dX12_plainFalls_5 : decode cX12_plainFalls 5 = .ok (.iload_n 2, 1) := by decide +kernel
theorem dX12_plainFalls_6 : decode cX12_plainFalls 6 = .ok (.iload_n 1, 1) := by decide +kernel
theorem dX12_plainFalls_7 : decode cX12_plainFalls 7 = .ok (.iadd, 1) := by decide +kernel
theorem dX12_plainFalls_8 : decode cX12_plainFalls 8 = .ok (.ireturn, 1) := by decide +kernel
theorem ok_yX12_plainFalls : yOk yX12_plainFalls 2 := ⟨by decide +kernel, by decide +kernel, by decide +kernel⟩
def fX12_plainFalls (st : St) (a1 : Int32) (a2 : Int32) : Option (Int32 × St) := (fX12_ran st (1 : Int32)).bind (fun r1 => some ((a2 + a1), r1))
set_option maxHeartbeats 4000000 in
theorem zX12_plainFalls (l : Launch) (X : WX) (st : St) (a1 : Int32) (a2 : Int32) (R : Int32 × St) (hf : fX12_plainFalls st a1 a2 = some R) : CtI l yX12_plainFalls cX12_plainFalls 3 .int ({ frames := 1, cells := 0, slots := 0, locals := 21 }) EM 43 X [.ref (xq X 0), .int a1, .int a2] st R.1 R.2 := by
  refine ct_in (own := RX12) (by decide +kernel) rfl (Nat.le_of_ble_eq_true rfl) (fun p e s m below meth c C hr hw ls hl => ?_)
  obtain ⟨hx, hb, hml, hown, hts⟩ := id C.1
  have hl : lv_has ls 3 [(0, .ref (xq X 0)), (1, .int a1), (2, .int a2)] := hl
  unfold fX12_plainFalls at hf
  refine lv_aload_n hx hb dX12_plainFalls_0 rfl (lv_at hl 0 rfl) ?_
  refine lv_iconst (v := 1) hx hb dX12_plainFalls_1 (by decide) ?_
  obtain ⟨r1, k2, hf⟩ := bd_some hf
  refine w_goV hw (w_runV (rest := []) C hw (zX12_ran _ _ st (1 : Int32) r1 k2) (by decide) (EM_0 X _ _) rfl km_X12_411 ki_yX12_ran kv_X12_ran kz_X12 kc_X12_ran rfl ok_yX12_ran ⟨Nat.le_of_ble_eq_true rfl, Nat.le_of_ble_eq_true rfl⟩ rfl rfl rfl rfl hl.1 (Nat.le_of_ble_eq_true rfl) dX12_plainFalls_2 ⟨Nat.zero_le _, Nat.zero_le _⟩) (fun H locs hw => ?_)
  refine lv_iload_n hx hb dX12_plainFalls_5 rfl (lv_at hl 2 rfl) ?_
  refine lv_iload_n hx hb dX12_plainFalls_6 rfl (lv_at hl 1 rfl) ?_
  refine lv_iadd hx hb dX12_plainFalls_7 ?_
  exact w_iret C hw hr (so2 hf).1 (so2 hf).2 dX12_plainFalls_8
theorem dX12_pawnFalls_0 : decode cX12_pawnFalls 0 = .ok (.aload_n 0, 1) := by decide +kernel
theorem dX12_pawnFalls_1 : decode cX12_pawnFalls 1 = .ok (.bipush 70, 2) := by decide +kernel
theorem dX12_pawnFalls_3 : decode cX12_pawnFalls 3 = .ok (.invokevirtual 411, 3) := by decide +kernel
theorem dX12_pawnFalls_6 : decode cX12_pawnFalls 6 = .ok (.aload_n 0, 1) := by decide +kernel
theorem dX12_pawnFalls_7 : decode cX12_pawnFalls 7 = .ok (.iload_n 1, 1) := by decide +kernel
theorem dX12_pawnFalls_8 : decode cX12_pawnFalls 8 = .ok (.iload_n 2, 1) := by decide +kernel
theorem dX12_pawnFalls_9 : decode cX12_pawnFalls 9 = .ok (.invokevirtual 415, 3) := by decide +kernel
theorem dX12_pawnFalls_12 : decode cX12_pawnFalls 12 = .ok (.iconst 2, 1) := by decide +kernel
theorem dX12_pawnFalls_13 : decode cX12_pawnFalls 13 = .ok (.imul, 1) := by decide +kernel
theorem dX12_pawnFalls_14 : decode cX12_pawnFalls 14 = .ok (.ireturn, 1) := by decide +kernel
theorem ok_yX12_pawnFalls : yOk yX12_pawnFalls 2 := ⟨by decide +kernel, by decide +kernel, by decide +kernel⟩
def fX12_pawnFalls (st : St) (a1 : Int32) (a2 : Int32) : Option (Int32 × St) := (fX12_ran st (70 : Int32)).bind (fun r1 => (fX12_plainFalls r1 a1 a2).bind (fun r3 => some ((r3.1 * (2 : Int32)), r3.2)))
set_option maxHeartbeats 4000000 in
theorem zX12_pawnFalls (l : Launch) (X : WX) (st : St) (a1 : Int32) (a2 : Int32) (R : Int32 × St) (hf : fX12_pawnFalls st a1 a2 = some R) : CtI l yX12_pawnFalls cX12_pawnFalls 3 .int ({ frames := 2, cells := 0, slots := 0, locals := 43 }) EM 43 X [.ref (xq X 0), .int a1, .int a2] st R.1 R.2 := by
  refine ct_in (own := RX12) (by decide +kernel) rfl (Nat.le_of_ble_eq_true rfl) (fun p e s m below meth c C hr hw ls hl => ?_)
  obtain ⟨hx, hb, hml, hown, hts⟩ := id C.1
  have hl : lv_has ls 3 [(0, .ref (xq X 0)), (1, .int a1), (2, .int a2)] := hl
  unfold fX12_pawnFalls at hf
  refine lv_aload_n hx hb dX12_pawnFalls_0 rfl (lv_at hl 0 rfl) ?_
  refine lv_bipush (v := 70) hx hb dX12_pawnFalls_1 (by decide) ?_
  obtain ⟨r1, k2, hf⟩ := bd_some hf
  refine w_goV hw (w_runV (rest := []) C hw (zX12_ran _ _ st (70 : Int32) r1 k2) (by decide) (EM_0 X _ _) rfl km_X12_411 ki_yX12_ran kv_X12_ran kz_X12 kc_X12_ran rfl ok_yX12_ran ⟨Nat.le_of_ble_eq_true rfl, Nat.le_of_ble_eq_true rfl⟩ rfl rfl rfl rfl hl.1 (Nat.le_of_ble_eq_true rfl) dX12_pawnFalls_3 ⟨Nat.zero_le _, Nat.zero_le _⟩) (fun H locs hw => ?_)
  refine lv_aload_n hx hb dX12_pawnFalls_6 rfl (lv_at hl 0 rfl) ?_
  refine lv_iload_n hx hb dX12_pawnFalls_7 rfl (lv_at hl 1 rfl) ?_
  refine lv_iload_n hx hb dX12_pawnFalls_8 rfl (lv_at hl 2 rfl) ?_
  obtain ⟨r3, k4, hf⟩ := bd_some hf
  refine w_goI hw (w_runV (rest := []) C hw (zX12_plainFalls _ _ r1 a1 a2 r3 k4) (by decide) (EM_0 X _ _) rfl km_X12_415 ki_yX12_plainFalls kv_X12_plainFalls kz_X12 kc_X12_plainFalls rfl ok_yX12_plainFalls ⟨Nat.le_of_ble_eq_true rfl, Nat.le_of_ble_eq_true rfl⟩ rfl rfl rfl rfl hl.1 (Nat.le_of_ble_eq_true rfl) dX12_pawnFalls_9 ⟨Nat.zero_le _, Nat.zero_le _⟩) (fun H locs hw => ?_)
  refine lv_iconst (v := 2) hx hb dX12_pawnFalls_12 (by decide) ?_
  refine lv_imul hx hb dX12_pawnFalls_13 ?_
  exact w_iret C hw hr (so2 hf).1 (so2 hf).2 dX12_pawnFalls_14
