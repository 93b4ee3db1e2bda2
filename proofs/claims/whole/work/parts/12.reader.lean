theorem dX5_take_0 : decode cX5_take 0 = .ok (.aload_n 0, 1) := by decide +kernel
theorem dX5_take_1 : decode cX5_take 1 = .ok (.getfield 9, 3) := by decide +kernel
theorem dX5_take_4 : decode cX5_take 4 = .ok (.aload_n 0, 1) := by decide +kernel
theorem dX5_take_5 : decode cX5_take 5 = .ok (.getfield 16, 3) := by decide +kernel
theorem dX5_take_8 : decode cX5_take 8 = .ok (.iload_n 1, 1) := by decide +kernel
theorem dX5_take_9 : decode cX5_take 9 = .ok (.iastore, 1) := by decide +kernel
theorem dX5_take_10 : decode cX5_take 10 = .ok (.aload_n 0, 1) := by decide +kernel
theorem dX5_take_11 : decode cX5_take 11 = .ok (.dup, 1) := by decide +kernel
theorem dX5_take_12 : decode cX5_take 12 = .ok (.getfield 16, 3) := by decide +kernel
theorem dX5_take_15 : decode cX5_take 15 = .ok (.iconst 1, 1) := by decide +kernel
theorem dX5_take_16 : decode cX5_take 16 = .ok (.iadd, 1) := by decide +kernel
theorem dX5_take_17 : decode cX5_take 17 = .ok (.putfield 16, 3) := by decide +kernel
theorem dX5_take_20 : decode cX5_take 20 = .ok (.aload_n 0, 1) := by decide +kernel
theorem dX5_take_21 : decode cX5_take 21 = .ok (.getfield 16, 3) := by decide +kernel
theorem dX5_take_24 : decode cX5_take 24 = .ok (.ireturn, 1) := by decide +kernel
theorem ok_yX5_take : yOk yX5_take 1 := ⟨by decide +kernel, by decide +kernel, by decide +kernel⟩
def fX5_take (st : St) (a1 : Int32) : Option (Int32 × St) := gd (inB (gI st 21 1) 120) (bnd (sI st 22 (gI st 21 1).toNatClampNeg a1) (fun st2 => bnd (sI st2 21 1 ((gI st2 21 1) + (1 : Int32))) (fun st4 => some ((gI st4 21 1), st4))))
set_option maxHeartbeats 4000000 in
theorem zX5_take (l : Launch) (X : WX) (st : St) (a1 : Int32) (R : Int32 × St) (hf : fX5_take st a1 = some R) : CtI l yX5_take cX5_take 2 .int ({ frames := 0, cells := 0, slots := 0, locals := 0 }) EC 65 X [.ref (xq X 21), .int a1] st R.1 R.2 := by
  refine ct_in (own := RX5) (by decide +kernel) rfl (Nat.le_of_ble_eq_true rfl) (fun p e s m below meth c C hr hw ls hl => ?_)
  obtain ⟨hx, hb, hml, hown, hts⟩ := id C.1
  have hl : lv_has ls 2 [(0, .ref (xq X 21)), (1, .int a1)] := hl
  unfold fX5_take at hf
  refine lv_aload_n hx hb dX5_take_0 rfl (lv_at hl 0 rfl) ?_
  refine w_get (T := TX5) C hw (by decide) 0 kf_X5_9 (EC_21 X _ _) rfl inA5 (by decide) rfl dX5_take_1 ?_
  refine lv_aload_n hx hb dX5_take_4 rfl (lv_at hl 0 rfl) ?_
  refine w_get (T := TX5) C hw (by decide) 1 kf_X5_16 (EC_21 X _ _) rfl inA5 (by decide) rfl dX5_take_5 ?_
  refine lv_iload_n hx hb dX5_take_8 rfl (lv_at hl 1 rfl) ?_
  obtain ⟨h1, hf⟩ := gd_some hf
  obtain ⟨st2, es3⟩ : ∃ z : St, z = sI st 22 (gI st 21 1).toNatClampNeg a1 := ⟨_, rfl⟩
  replace hf := bnd_nm hf es3
  refine w_iast C hw (by decide) (fun f9 => EC_22 X f9 _) h1 rfl dX5_take_9 (fun H locs hw => ?_)
  rw [← es3] at hw
  refine lv_aload_n hx hb dX5_take_10 rfl (lv_at hl 0 rfl) ?_
  refine lv_dup hx hb dX5_take_11 rfl ?_
  refine w_get (T := TX5) C hw (by decide) 1 kf_X5_16 (EC_21 X _ _) rfl inA5 (by decide) rfl dX5_take_12 ?_
  refine lv_iconst (v := 1) hx hb dX5_take_15 (by decide) ?_
  refine lv_iadd hx hb dX5_take_16 ?_
  obtain ⟨st4, es5⟩ : ∃ z : St, z = sI st2 21 1 ((gI st2 21 1) + (1 : Int32)) := ⟨_, rfl⟩
  replace hf := bnd_nm hf es5
  refine w_puti (T := TX5) C hw (by decide) 1 kf_X5_16 (EC_21 X _ _) rfl inA5 tyX5_ok nmX5 (by decide) rfl rfl (Nat.le_of_ble_eq_true rfl) rfl dX5_take_17 (fun H locs hw => ?_)
  rw [← es5] at hw
  refine lv_aload_n hx hb dX5_take_20 rfl (lv_at hl 0 rfl) ?_
  refine w_get (T := TX5) C hw (by decide) 1 kf_X5_16 (EC_21 X _ _) rfl inA5 (by decide) rfl dX5_take_21 ?_
  exact w_iret C hw hr (so2 hf).1 (so2 hf).2 dX5_take_24
theorem dX5_add_0 : decode cX5_add 0 = .ok (.aload_n 0, 1) := by decide +kernel
theorem dX5_add_1 : decode cX5_add 1 = .ok (.getfield 23, 3) := by decide +kernel
theorem dX5_add_4 : decode cX5_add 4 = .ok (.bipush 121, 2) := by decide +kernel
theorem dX5_add_6 : decode cX5_add 6 = .ok (.if_icmp .ge 23, 3) := by decide +kernel
theorem dX5_add_9 : decode cX5_add 9 = .ok (.aload_n 0, 1) := by decide +kernel
theorem dX5_add_10 : decode cX5_add 10 = .ok (.getfield 13, 3) := by decide +kernel
theorem dX5_add_13 : decode cX5_add 13 = .ok (.aload_n 0, 1) := by decide +kernel
theorem dX5_add_14 : decode cX5_add 14 = .ok (.getfield 23, 3) := by decide +kernel
theorem dX5_add_17 : decode cX5_add 17 = .ok (.iload_n 1, 1) := by decide +kernel
theorem dX5_add_18 : decode cX5_add 18 = .ok (.iastore, 1) := by decide +kernel
theorem dX5_add_19 : decode cX5_add 19 = .ok (.aload_n 0, 1) := by decide +kernel
theorem dX5_add_20 : decode cX5_add 20 = .ok (.dup, 1) := by decide +kernel
theorem dX5_add_21 : decode cX5_add 21 = .ok (.getfield 23, 3) := by decide +kernel
theorem dX5_add_24 : decode cX5_add 24 = .ok (.iconst 1, 1) := by decide +kernel
theorem dX5_add_25 : decode cX5_add 25 = .ok (.iadd, 1) := by decide +kernel
theorem dX5_add_26 : decode cX5_add 26 = .ok (.putfield 23, 3) := by decide +kernel
theorem dX5_add_29 : decode cX5_add 29 = .ok (.return_, 1) := by decide +kernel
theorem ok_yX5_add : yOk yX5_add 1 := ⟨by decide +kernel, by decide +kernel, by decide +kernel⟩
def fX5_add (st : St) (a1 : Int32) : Option (St) := if (121 : Int32) ≤ gI st 21 4 then (some st) else (gd (cdB (gI st 21 3)) (gd (inB (gI st 21 4) 121) (bnd (sI st ((gI st 21 3).toNatClampNeg) (gI st 21 4).toNatClampNeg a1) (fun st4 => bnd (sI st4 21 4 ((gI st4 21 4) + (1 : Int32))) (fun st6 => some st6)))))
set_option maxHeartbeats 4000000 in
theorem zX5_add (l : Launch) (X : WX) (st : St) (a1 : Int32) (R : St) (hf : fX5_add st a1 = some R) : CtV l yX5_add cX5_add 2 ({ frames := 0, cells := 0, slots := 0, locals := 0 }) EC 65 X [.ref (xq X 21), .int a1] st R := by
  refine ct_in (own := RX5) (by decide +kernel) rfl (Nat.le_of_ble_eq_true rfl) (fun p e s m below meth c C hr hw ls hl => ?_)
  obtain ⟨hx, hb, hml, hown, hts⟩ := id C.1
  have hl : lv_has ls 2 [(0, .ref (xq X 21)), (1, .int a1)] := hl
  unfold fX5_add at hf
  refine lv_aload_n hx hb dX5_add_0 rfl (lv_at hl 0 rfl) ?_
  refine w_get (T := TX5) C hw (by decide) 4 kf_X5_23 (EC_21 X _ _) rfl inA5 (by decide) rfl dX5_add_1 ?_
  refine lv_bipush (v := 121) hx hb dX5_add_4 (by decide) ?_
  refine lv_icmp_ge (tgt := 29) hx hb dX5_add_6 (by decide) (fun c1 => ?_) (fun c1 => ?_)
  · replace hf := ite_t hf c1
    exact w_vret C hw hr (Option.some.inj hf) dX5_add_29
  · replace hf := ite_f hf c1
    refine lv_aload_n hx hb dX5_add_9 rfl (lv_at hl 0 rfl) ?_
    refine w_get (T := TX5) C hw (by decide) 3 kf_X5_13 (EC_21 X _ _) rfl inA5 (by decide) rfl dX5_add_10 ?_
    refine lv_aload_n hx hb dX5_add_13 rfl (lv_at hl 0 rfl) ?_
    refine w_get (T := TX5) C hw (by decide) 4 kf_X5_23 (EC_21 X _ _) rfl inA5 (by decide) rfl dX5_add_14 ?_
    refine lv_iload_n hx hb dX5_add_17 rfl (lv_at hl 1 rfl) ?_
    obtain ⟨h2, hf⟩ := gd_some hf
    obtain ⟨h3, hf⟩ := gd_some hf
    obtain ⟨st4, es5⟩ : ∃ z : St, z = sI st ((gI st 21 3).toNatClampNeg) (gI st 21 4).toNatClampNeg a1 := ⟨_, rfl⟩
    replace hf := bnd_nm hf es5
    refine w_iast C hw (EC_cdN h2) (fun f9 => EC_cd X h2 f9 _) h3 rfl dX5_add_18 (fun H locs hw => ?_)
    rw [← es5] at hw
    refine lv_aload_n hx hb dX5_add_19 rfl (lv_at hl 0 rfl) ?_
    refine lv_dup hx hb dX5_add_20 rfl ?_
    refine w_get (T := TX5) C hw (by decide) 4 kf_X5_23 (EC_21 X _ _) rfl inA5 (by decide) rfl dX5_add_21 ?_
    refine lv_iconst (v := 1) hx hb dX5_add_24 (by decide) ?_
    refine lv_iadd hx hb dX5_add_25 ?_
    obtain ⟨st6, es7⟩ : ∃ z : St, z = sI st4 21 4 ((gI st4 21 4) + (1 : Int32)) := ⟨_, rfl⟩
    replace hf := bnd_nm hf es7
    refine w_puti (T := TX5) C hw (by decide) 4 kf_X5_23 (EC_21 X _ _) rfl inA5 tyX5_ok nmX5 (by decide) rfl rfl (Nat.le_of_ble_eq_true rfl) rfl dX5_add_26 (fun H locs hw => ?_)
    rw [← es7] at hw
    exact w_vret C hw hr (Option.some.inj hf) dX5_add_29
theorem dX5_readNumber_0 : decode cX5_readNumber 0 = .ok (.iconst 0, 1) := by decide +kernel
theorem dX5_readNumber_1 : decode cX5_readNumber 1 = .ok (.istore_n 1, 1) := by decide +kernel
theorem dX5_readNumber_2 : decode cX5_readNumber 2 = .ok (.iconst 0, 1) := by decide +kernel
theorem dX5_readNumber_3 : decode cX5_readNumber 3 = .ok (.istore_n 2, 1) := by decide +kernel
theorem dX5_readNumber_4 : decode cX5_readNumber 4 = .ok (.iload_n 2, 1) := by decide +kernel
theorem dX5_readNumber_5 : decode cX5_readNumber 5 = .ok (.iconst 4, 1) := by decide +kernel
theorem dX5_readNumber_6 : decode cX5_readNumber 6 = .ok (.if_icmp .ge 79, 3) := by decide +kernel
theorem dX5_readNumber_9 : decode cX5_readNumber 9 = .ok (.aload_n 0, 1) := by decide +kernel
theorem dX5_readNumber_10 : decode cX5_readNumber 10 = .ok (.getfield 27, 3) := by decide +kernel
theorem dX5_readNumber_13 : decode cX5_readNumber 13 = .ok (.aload_n 0, 1) := by decide +kernel
theorem dX5_readNumber_14 : decode cX5_readNumber 14 = .ok (.getfield 16, 3) := by decide +kernel
theorem dX5_readNumber_17 : decode cX5_readNumber 17 = .ok (.if_icmp .ge 68, 3) := by decide +kernel
theorem dX5_readNumber_20 : decode cX5_readNumber 20 = .ok (.aload_n 0, 1) := by decide +kernel
theorem dX5_readNumber_21 : decode cX5_readNumber 21 = .ok (.getfield 9, 3) := by decide +kernel
theorem dX5_readNumber_24 : decode cX5_readNumber 24 = .ok (.aload_n 0, 1) := by decide +kernel
theorem dX5_readNumber_25 : decode cX5_readNumber 25 = .ok (.getfield 27, 3) := by decide +kernel
theorem dX5_readNumber_28 : decode cX5_readNumber 28 = .ok (.iaload, 1) := by decide +kernel
theorem dX5_readNumber_29 : decode cX5_readNumber 29 = .ok (.bipush 48, 2) := by decide +kernel
theorem dX5_readNumber_31 : decode cX5_readNumber 31 = .ok (.if_icmp .lt 54, 3) := by decide +kernel
theorem dX5_readNumber_34 : decode cX5_readNumber 34 = .ok (.aload_n 0, 1) := by decide +kernel
theorem dX5_readNumber_35 : decode cX5_readNumber 35 = .ok (.getfield 9, 3) := by decide +kernel
theorem dX5_readNumber_38 : decode cX5_readNumber 38 = .ok (.aload_n 0, 1) := by decide +kernel
theorem dX5_readNumber_39 : decode cX5_readNumber 39 = .ok (.getfield 27, 3) := by decide +kernel
theorem dX5_readNumber_42 : decode cX5_readNumber 42 = .ok (.iaload, 1) := by decide +kernel
theorem dX5_readNumber_43 : decode cX5_readNumber 43 = .ok (.bipush 57, 2) := by decide +kernel
theorem dX5_readNumber_45 : decode cX5_readNumber 45 = .ok (.if_icmp .le 6, 3) := by decide +kernel
theorem dX5_readNumber_48 : decode cX5_readNumber 48 = .ok (.goto 37, 3) := by decide +kernel
theorem dX5_readNumber_51 : decode cX5_readNumber 51 = .ok (.bipush 10, 2) := by decide +kernel
theorem dX5_readNumber_53 : decode cX5_readNumber 53 = .ok (.iload_n 1, 1) := by decide +kernel
theorem dX5_readNumber_54 : decode cX5_readNumber 54 = .ok (.imul, 1) := by decide +kernel
theorem dX5_readNumber_55 : decode cX5_readNumber 55 = .ok (.aload_n 0, 1) := by decide +kernel
theorem dX5_readNumber_56 : decode cX5_readNumber 56 = .ok (.getfield 9, 3) := by decide +kernel
theorem dX5_readNumber_59 : decode cX5_readNumber 59 = .ok (.aload_n 0, 1) := by decide +kernel
theorem dX5_readNumber_60 : decode cX5_readNumber 60 = .ok (.getfield 27, 3) := by decide +kernel
theorem dX5_readNumber_63 : decode cX5_readNumber 63 = .ok (.iaload, 1) := by decide +kernel
theorem dX5_readNumber_64 : decode cX5_readNumber 64 = .ok (.iadd, 1) := by decide +kernel
theorem dX5_readNumber_65 : decode cX5_readNumber 65 = .ok (.bipush 48, 2) := by decide +kernel
theorem dX5_readNumber_67 : decode cX5_readNumber 67 = .ok (.isub, 1) := by decide +kernel
theorem dX5_readNumber_68 : decode cX5_readNumber 68 = .ok (.istore_n 1, 1) := by decide +kernel
theorem dX5_readNumber_69 : decode cX5_readNumber 69 = .ok (.aload_n 0, 1) := by decide +kernel
theorem dX5_readNumber_70 : decode cX5_readNumber 70 = .ok (.dup, 1) := by decide +kernel
theorem dX5_readNumber_71 : decode cX5_readNumber 71 = .ok (.getfield 27, 3) := by decide +kernel
theorem dX5_readNumber_74 : decode cX5_readNumber 74 = .ok (.iconst 1, 1) := by decide +kernel
theorem dX5_readNumber_75 : decode cX5_readNumber 75 = .ok (.iadd, 1) := by decide +kernel
theorem dX5_readNumber_76 : decode cX5_readNumber 76 = .ok (.putfield 27, 3) := by decide +kernel
theorem dX5_readNumber_79 : decode cX5_readNumber 79 = .ok (.iinc 2 1, 3) := by decide +kernel
theorem dX5_readNumber_82 : decode cX5_readNumber 82 = .ok (.goto (-78), 3) := by decide +kernel
theorem dX5_readNumber_85 : decode cX5_readNumber 85 = .ok (.aload_n 0, 1) := by decide +kernel
theorem dX5_readNumber_86 : decode cX5_readNumber 86 = .ok (.iload_n 1, 1) := by decide +kernel
theorem dX5_readNumber_87 : decode cX5_readNumber 87 = .ok (.invokevirtual 38, 3) := by decide +kernel
theorem dX5_readNumber_90 : decode cX5_readNumber 90 = .ok (.return_, 1) := by decide +kernel
theorem ok_yX5_readNumber : yOk yX5_readNumber 0 := ⟨by decide +kernel, by decide +kernel, by decide +kernel⟩
def fX5_readNumber_4 (n : Nat) : Nat → St → Int32 → Int32 → Option (St)
  | 0, _, _, _ => none
  | k + 1, st, v1, v2 => if (4 : Int32) ≤ v2 then ((fX5_add st v1).bind (fun r2 => some r2)) else (if gI st 21 1 ≤ gI st 21 2 then ((fX5_add st v1).bind (fun r5 => some r5)) else (gd (inB (gI st 21 2) 120) (if gI st 22 (gI st 21 2).toNatClampNeg < (48 : Int32) then ((fX5_add st v1).bind (fun r9 => some r9)) else (gd (inB (gI st 21 2) 120) (if gI st 22 (gI st 21 2).toNatClampNeg ≤ (57 : Int32) then (gd (inB (gI st 21 2) 120) (bnd ((((10 : Int32) * v1) + (gI st 22 (gI st 21 2).toNatClampNeg)) - (48 : Int32)) (fun x14 => bnd (sI st 21 2 ((gI st 21 2) + (1 : Int32))) (fun st16 => bnd (v2 + (1 : Int32)) (fun x18 => fX5_readNumber_4 n k st16 x14 x18))))) else ((fX5_add st v1).bind (fun r20 => some r20)))))))
set_option maxHeartbeats 4000000 in
theorem tX5_readNumber_4 {p : Program} {l : Launch} {e : Env} {s : State} {m : MethodId} {args : Array Value} {below : List Frame} {meth : Method} {c : Code} {X : WX} (C : Amb 65 X p s m args meth c cX5_readNumber 3 RX5) (hr : meth.sig.returnType = none) {R : St} {n : Nat} : ∀ (k : Nat) (st : St) (v1 : Int32) (v2 : Int32) (H : Heap) (locs : List Loc) (ls : Array Slot), Wd EC 65 X s.heap st H locs → lv_has ls 3 [(0, .ref (xq X 21)), (1, .int v1), (2, .int v2)] → fX5_readNumber_4 n k st v1 v2 = some R → W p l e { frames := 1, cells := 0, slots := 0, locals := 21 } s m args below meth c H locs 0 0 (QV EC 65 X R below args s) (F0 m 4 ls []) := by
  obtain ⟨hx, hb, hml, hown, hts⟩ := id C.1
  intro k
  induction k with
  | zero => intro st v1 v2 H locs ls  hw hl hf; exact absurd (show none = some R from hf) (fun z => by cases z)
  | succ k ih =>
    intro st v1 v2 H locs ls  hw hl hf
    rw [fX5_readNumber_4] at hf
    refine lv_iload_n hx hb dX5_readNumber_4 rfl (lv_at hl 2 rfl) ?_
    refine lv_iconst (v := 4) hx hb dX5_readNumber_5 (by decide) ?_
    refine lv_icmp_ge (tgt := 85) hx hb dX5_readNumber_6 (by decide) (fun c1 => ?_) (fun c1 => ?_)
    · replace hf := ite_t hf c1
      refine lv_aload_n hx hb dX5_readNumber_85 rfl (lv_at hl 0 rfl) ?_
      refine lv_iload_n hx hb dX5_readNumber_86 rfl (lv_at hl 1 rfl) ?_
      obtain ⟨r2, k3, hf⟩ := bd_some hf
      refine w_goV hw (w_runV (rest := []) C hw (zX5_add _ _ st v1 r2 k3) (by decide) (EC_21 X _ _) rfl km_X5_38 ki_yX5_add kv_X5_add kz_X5 kc_X5_add rfl ok_yX5_add ⟨Nat.le_of_ble_eq_true rfl, Nat.le_of_ble_eq_true rfl⟩ rfl rfl rfl rfl hl.1 (Nat.le_of_ble_eq_true rfl) dX5_readNumber_87 ⟨Nat.zero_le _, Nat.zero_le _⟩) (fun H locs hw => ?_)
      exact w_vret C hw hr (Option.some.inj hf) dX5_readNumber_90
    · replace hf := ite_f hf c1
      refine lv_aload_n hx hb dX5_readNumber_9 rfl (lv_at hl 0 rfl) ?_
      refine w_get (T := TX5) C hw (by decide) 2 kf_X5_27 (EC_21 X _ _) rfl inA5 (by decide) rfl dX5_readNumber_10 ?_
      refine lv_aload_n hx hb dX5_readNumber_13 rfl (lv_at hl 0 rfl) ?_
      refine w_get (T := TX5) C hw (by decide) 1 kf_X5_16 (EC_21 X _ _) rfl inA5 (by decide) rfl dX5_readNumber_14 ?_
      refine lv_icmp_ge (tgt := 85) hx hb dX5_readNumber_17 (by decide) (fun c4 => ?_) (fun c4 => ?_)
      · replace hf := ite_t hf c4
        refine lv_aload_n hx hb dX5_readNumber_85 rfl (lv_at hl 0 rfl) ?_
        refine lv_iload_n hx hb dX5_readNumber_86 rfl (lv_at hl 1 rfl) ?_
        obtain ⟨r5, k6, hf⟩ := bd_some hf
        refine w_goV hw (w_runV (rest := []) C hw (zX5_add _ _ st v1 r5 k6) (by decide) (EC_21 X _ _) rfl km_X5_38 ki_yX5_add kv_X5_add kz_X5 kc_X5_add rfl ok_yX5_add ⟨Nat.le_of_ble_eq_true rfl, Nat.le_of_ble_eq_true rfl⟩ rfl rfl rfl rfl hl.1 (Nat.le_of_ble_eq_true rfl) dX5_readNumber_87 ⟨Nat.zero_le _, Nat.zero_le _⟩) (fun H locs hw => ?_)
        exact w_vret C hw hr (Option.some.inj hf) dX5_readNumber_90
      · replace hf := ite_f hf c4
        refine lv_aload_n hx hb dX5_readNumber_20 rfl (lv_at hl 0 rfl) ?_
        refine w_get (T := TX5) C hw (by decide) 0 kf_X5_9 (EC_21 X _ _) rfl inA5 (by decide) rfl dX5_readNumber_21 ?_
        refine lv_aload_n hx hb dX5_readNumber_24 rfl (lv_at hl 0 rfl) ?_
        refine w_get (T := TX5) C hw (by decide) 2 kf_X5_27 (EC_21 X _ _) rfl inA5 (by decide) rfl dX5_readNumber_25 ?_
        obtain ⟨h7, hf⟩ := gd_some hf
        refine w_iald C hw (by decide) (EC_22 X _ _) h7 rfl dX5_readNumber_28 ?_
        refine lv_bipush (v := 48) hx hb dX5_readNumber_29 (by decide) ?_
        refine lv_icmp_lt (tgt := 85) hx hb dX5_readNumber_31 (by decide) (fun c8 => ?_) (fun c8 => ?_)
        · replace hf := ite_t hf c8
          refine lv_aload_n hx hb dX5_readNumber_85 rfl (lv_at hl 0 rfl) ?_
          refine lv_iload_n hx hb dX5_readNumber_86 rfl (lv_at hl 1 rfl) ?_
          obtain ⟨r9, k10, hf⟩ := bd_some hf
          refine w_goV hw (w_runV (rest := []) C hw (zX5_add _ _ st v1 r9 k10) (by decide) (EC_21 X _ _) rfl km_X5_38 ki_yX5_add kv_X5_add kz_X5 kc_X5_add rfl ok_yX5_add ⟨Nat.le_of_ble_eq_true rfl, Nat.le_of_ble_eq_true rfl⟩ rfl rfl rfl rfl hl.1 (Nat.le_of_ble_eq_true rfl) dX5_readNumber_87 ⟨Nat.zero_le _, Nat.zero_le _⟩) (fun H locs hw => ?_)
          exact w_vret C hw hr (Option.some.inj hf) dX5_readNumber_90
        · replace hf := ite_f hf c8
          refine lv_aload_n hx hb dX5_readNumber_34 rfl (lv_at hl 0 rfl) ?_
          refine w_get (T := TX5) C hw (by decide) 0 kf_X5_9 (EC_21 X _ _) rfl inA5 (by decide) rfl dX5_readNumber_35 ?_
          refine lv_aload_n hx hb dX5_readNumber_38 rfl (lv_at hl 0 rfl) ?_
          refine w_get (T := TX5) C hw (by decide) 2 kf_X5_27 (EC_21 X _ _) rfl inA5 (by decide) rfl dX5_readNumber_39 ?_
          obtain ⟨h11, hf⟩ := gd_some hf
          refine w_iald C hw (by decide) (EC_22 X _ _) h11 rfl dX5_readNumber_42 ?_
          refine lv_bipush (v := 57) hx hb dX5_readNumber_43 (by decide) ?_
          refine lv_icmp_le (tgt := 51) hx hb dX5_readNumber_45 (by decide) (fun c12 => ?_) (fun c12 => ?_)
          · replace hf := ite_t hf c12
            refine lv_bipush (v := 10) hx hb dX5_readNumber_51 (by decide) ?_
            refine lv_iload_n hx hb dX5_readNumber_53 rfl (lv_at hl 1 rfl) ?_
            refine lv_imul hx hb dX5_readNumber_54 ?_
            refine lv_aload_n hx hb dX5_readNumber_55 rfl (lv_at hl 0 rfl) ?_
            refine w_get (T := TX5) C hw (by decide) 0 kf_X5_9 (EC_21 X _ _) rfl inA5 (by decide) rfl dX5_readNumber_56 ?_
            refine lv_aload_n hx hb dX5_readNumber_59 rfl (lv_at hl 0 rfl) ?_
            refine w_get (T := TX5) C hw (by decide) 2 kf_X5_27 (EC_21 X _ _) rfl inA5 (by decide) rfl dX5_readNumber_60 ?_
            obtain ⟨h13, hf⟩ := gd_some hf
            refine w_iald C hw (by decide) (EC_22 X _ _) h13 rfl dX5_readNumber_63 ?_
            refine lv_iadd hx hb dX5_readNumber_64 ?_
            refine lv_bipush (v := 48) hx hb dX5_readNumber_65 (by decide) ?_
            refine lv_isub hx hb dX5_readNumber_67 ?_
            refine lv_topi (fun x14 e15 => ?_)
            replace hf := bnd_nm hf e15
            refine lv_istore_n (lv' := [(1, .int x14), (0, .ref (xq X 21)), (2, .int v2)]) hx hb dX5_readNumber_68 rfl hl (by decide) rfl (fun ls hl => ?_)
            refine lv_aload_n hx hb dX5_readNumber_69 rfl (lv_at hl 1 rfl) ?_
            refine lv_dup hx hb dX5_readNumber_70 rfl ?_
            refine w_get (T := TX5) C hw (by decide) 2 kf_X5_27 (EC_21 X _ _) rfl inA5 (by decide) rfl dX5_readNumber_71 ?_
            refine lv_iconst (v := 1) hx hb dX5_readNumber_74 (by decide) ?_
            refine lv_iadd hx hb dX5_readNumber_75 ?_
            obtain ⟨st16, es17⟩ : ∃ z : St, z = sI st 21 2 ((gI st 21 2) + (1 : Int32)) := ⟨_, rfl⟩
            replace hf := bnd_nm hf es17
            refine w_puti (T := TX5) C hw (by decide) 2 kf_X5_27 (EC_21 X _ _) rfl inA5 tyX5_ok nmX5 (by decide) rfl rfl (Nat.le_of_ble_eq_true rfl) rfl dX5_readNumber_76 (fun H locs hw => ?_)
            rw [← es17] at hw
            obtain ⟨x18, e19⟩ : ∃ z : Int32, z = v2 + (1 : Int32) := ⟨_, rfl⟩
            replace hf := bnd_nm hf e19
            refine lv_iinc (v := x18) (lv' := [(2, .int x18), (1, .int x14), (0, .ref (xq X 21))]) hx hb dX5_readNumber_79 hl (k := 2) rfl (by rw [e19]; rfl) (by decide) rfl (fun ls hl => ?_)
            refine lv_goto (tgt := 4) hx hb dX5_readNumber_82 (by decide) ?_
            exact ih st16 x14 x18 _ _ _ hw (lv_sub hl [2, 1, 0] rfl) hf
          · replace hf := ite_f hf c12
            refine lv_goto (tgt := 85) hx hb dX5_readNumber_48 (by decide) ?_
            refine lv_aload_n hx hb dX5_readNumber_85 rfl (lv_at hl 0 rfl) ?_
            refine lv_iload_n hx hb dX5_readNumber_86 rfl (lv_at hl 1 rfl) ?_
            obtain ⟨r20, k21, hf⟩ := bd_some hf
            refine w_goV hw (w_runV (rest := []) C hw (zX5_add _ _ st v1 r20 k21) (by decide) (EC_21 X _ _) rfl km_X5_38 ki_yX5_add kv_X5_add kz_X5 kc_X5_add rfl ok_yX5_add ⟨Nat.le_of_ble_eq_true rfl, Nat.le_of_ble_eq_true rfl⟩ rfl rfl rfl rfl hl.1 (Nat.le_of_ble_eq_true rfl) dX5_readNumber_87 ⟨Nat.zero_le _, Nat.zero_le _⟩) (fun H locs hw => ?_)
            exact w_vret C hw hr (Option.some.inj hf) dX5_readNumber_90
def fX5_readNumber (n : Nat) (st : St) : Option (St) := fX5_readNumber_4 n n st (0 : Int32) (0 : Int32)
set_option maxHeartbeats 4000000 in
theorem zX5_readNumber (l : Launch) (X : WX) (n : Nat) (st : St)  (R : St) (hf : fX5_readNumber n st = some R) : CtV l yX5_readNumber cX5_readNumber 3 ({ frames := 1, cells := 0, slots := 0, locals := 21 }) EC 65 X [.ref (xq X 21)] st R := by
  refine ct_in (own := RX5) (by decide +kernel) rfl (Nat.le_of_ble_eq_true rfl) (fun p e s m below meth c C hr hw ls hl => ?_)
  obtain ⟨hx, hb, hml, hown, hts⟩ := id C.1
  have hl : lv_has ls 3 [(0, .ref (xq X 21))] := hl
  unfold fX5_readNumber at hf
  refine lv_iconst (v := 0) hx hb dX5_readNumber_0 (by decide) ?_
  refine lv_istore_n (lv' := [(1, .int (0 : Int32)), (0, .ref (xq X 21))]) hx hb dX5_readNumber_1 rfl hl (by decide) rfl (fun ls hl => ?_)
  refine lv_iconst (v := 0) hx hb dX5_readNumber_2 (by decide) ?_
  refine lv_istore_n (lv' := [(2, .int (0 : Int32)), (1, .int (0 : Int32)), (0, .ref (xq X 21))]) hx hb dX5_readNumber_3 rfl hl (by decide) rfl (fun ls hl => ?_)
  exact tX5_readNumber_4 C hr n st (0 : Int32) (0 : Int32) _ _ _ hw (lv_sub hl [2, 1, 0] rfl) hf
theorem dX5_nameOf_0 : decode cX5_nameOf 0 = .ok (.iload_n 0, 1) := by decide +kernel
theorem dX5_nameOf_1 : decode cX5_nameOf 1 = .ok (.tableswitch 112 100 119 #[95, 112, 112, 112, 106, 112, 112, 100, 103, 112, 112, 112, 112, 112, 112, 109, 112, 112, 112, 97], 95) := by decide +kernel
theorem dX5_nameOf_96 : decode cX5_nameOf 96 = .ok (.iconst (-1), 1) := by decide +kernel
theorem dX5_nameOf_97 : decode cX5_nameOf 97 = .ok (.ireturn, 1) := by decide +kernel
theorem dX5_nameOf_98 : decode cX5_nameOf 98 = .ok (.bipush (-2), 2) := by decide +kernel
theorem dX5_nameOf_100 : decode cX5_nameOf 100 = .ok (.ireturn, 1) := by decide +kernel
theorem dX5_nameOf_101 : decode cX5_nameOf 101 = .ok (.bipush (-3), 2) := by decide +kernel
theorem dX5_nameOf_103 : decode cX5_nameOf 103 = .ok (.ireturn, 1) := by decide +kernel
theorem dX5_nameOf_104 : decode cX5_nameOf 104 = .ok (.bipush (-4), 2) := by decide +kernel
theorem dX5_nameOf_106 : decode cX5_nameOf 106 = .ok (.ireturn, 1) := by decide +kernel
theorem dX5_nameOf_107 : decode cX5_nameOf 107 = .ok (.bipush (-5), 2) := by decide +kernel
theorem dX5_nameOf_109 : decode cX5_nameOf 109 = .ok (.ireturn, 1) := by decide +kernel
theorem dX5_nameOf_110 : decode cX5_nameOf 110 = .ok (.bipush (-6), 2) := by decide +kernel
theorem dX5_nameOf_112 : decode cX5_nameOf 112 = .ok (.ireturn, 1) := by decide +kernel
theorem dX5_nameOf_113 : decode cX5_nameOf 113 = .ok (.iconst 0, 1) := by decide +kernel
theorem dX5_nameOf_114 : decode cX5_nameOf 114 = .ok (.ireturn, 1) := by decide +kernel
theorem ok_yX5_nameOf : yOk yX5_nameOf 1 := ⟨by decide +kernel, by decide +kernel, by decide +kernel⟩
def fX5_nameOf (a0 : Int32) : Int32 := if a0 = 100 then ((-1 : Int32)) else (if a0 = 101 then ((0 : Int32)) else (if a0 = 102 then ((0 : Int32)) else (if a0 = 103 then ((0 : Int32)) else (if a0 = 104 then ((-5 : Int32)) else (if a0 = 105 then ((0 : Int32)) else (if a0 = 106 then ((0 : Int32)) else (if a0 = 107 then ((-3 : Int32)) else (if a0 = 108 then ((-4 : Int32)) else (if a0 = 109 then ((0 : Int32)) else (if a0 = 110 then ((0 : Int32)) else (if a0 = 111 then ((0 : Int32)) else (if a0 = 112 then ((0 : Int32)) else (if a0 = 113 then ((0 : Int32)) else (if a0 = 114 then ((0 : Int32)) else (if a0 = 115 then ((-6 : Int32)) else (if a0 = 116 then ((0 : Int32)) else (if a0 = 117 then ((0 : Int32)) else (if a0 = 118 then ((0 : Int32)) else (if a0 = 119 then ((-2 : Int32)) else ((0 : Int32)))))))))))))))))))))
set_option maxHeartbeats 4000000 in
theorem zX5_nameOf (l : Launch) (X : WX) (st : St) (a0 : Int32) : CtI l yX5_nameOf cX5_nameOf 1 .int ({ frames := 0, cells := 0, slots := 0, locals := 0 }) EC 65 X [.int a0] st (fX5_nameOf a0) st := by
  generalize hf : fX5_nameOf a0 = R
  refine ct_in (own := RX5) (by decide +kernel) rfl (Nat.le_of_ble_eq_true rfl) (fun p e s m below meth c C hr hw ls hl => ?_)
  obtain ⟨hx, hb, hml, hown, hts⟩ := id C.1
  have hl : lv_has ls 1 [(0, .int a0)] := hl
  unfold fX5_nameOf at hf
  refine lv_iload_n hx hb dX5_nameOf_0 rfl (lv_at hl 0 rfl) ?_
  by_cases c1 : a0 = 100
  · replace hf := ite_t hf c1
    refine lv_tableIn (tgt := 96) hx hb dX5_nameOf_1 (by rw [c1]; decide) (by rw [c1]; decide) (by rw [c1]; rfl) (by decide) ?_
    refine lv_iconst (v := -1) hx hb dX5_nameOf_96 (by decide) ?_
    exact w_iret C hw hr hf rfl dX5_nameOf_97
  · replace hf := ite_f hf c1
    by_cases c2 : a0 = 101
    · replace hf := ite_t hf c2
      refine lv_tableIn (tgt := 113) hx hb dX5_nameOf_1 (by rw [c2]; decide) (by rw [c2]; decide) (by rw [c2]; rfl) (by decide) ?_
      refine lv_iconst (v := 0) hx hb dX5_nameOf_113 (by decide) ?_
      exact w_iret C hw hr hf rfl dX5_nameOf_114
    · replace hf := ite_f hf c2
      by_cases c3 : a0 = 102
      · replace hf := ite_t hf c3
        refine lv_tableIn (tgt := 113) hx hb dX5_nameOf_1 (by rw [c3]; decide) (by rw [c3]; decide) (by rw [c3]; rfl) (by decide) ?_
        refine lv_iconst (v := 0) hx hb dX5_nameOf_113 (by decide) ?_
        exact w_iret C hw hr hf rfl dX5_nameOf_114
      · replace hf := ite_f hf c3
        by_cases c4 : a0 = 103
        · replace hf := ite_t hf c4
          refine lv_tableIn (tgt := 113) hx hb dX5_nameOf_1 (by rw [c4]; decide) (by rw [c4]; decide) (by rw [c4]; rfl) (by decide) ?_
          refine lv_iconst (v := 0) hx hb dX5_nameOf_113 (by decide) ?_
          exact w_iret C hw hr hf rfl dX5_nameOf_114
        · replace hf := ite_f hf c4
          by_cases c5 : a0 = 104
          · replace hf := ite_t hf c5
            refine lv_tableIn (tgt := 107) hx hb dX5_nameOf_1 (by rw [c5]; decide) (by rw [c5]; decide) (by rw [c5]; rfl) (by decide) ?_
            refine lv_bipush (v := -5) hx hb dX5_nameOf_107 (by decide) ?_
            exact w_iret C hw hr hf rfl dX5_nameOf_109
          · replace hf := ite_f hf c5
            by_cases c6 : a0 = 105
            · replace hf := ite_t hf c6
              refine lv_tableIn (tgt := 113) hx hb dX5_nameOf_1 (by rw [c6]; decide) (by rw [c6]; decide) (by rw [c6]; rfl) (by decide) ?_
              refine lv_iconst (v := 0) hx hb dX5_nameOf_113 (by decide) ?_
              exact w_iret C hw hr hf rfl dX5_nameOf_114
            · replace hf := ite_f hf c6
              by_cases c7 : a0 = 106
              · replace hf := ite_t hf c7
                refine lv_tableIn (tgt := 113) hx hb dX5_nameOf_1 (by rw [c7]; decide) (by rw [c7]; decide) (by rw [c7]; rfl) (by decide) ?_
                refine lv_iconst (v := 0) hx hb dX5_nameOf_113 (by decide) ?_
                exact w_iret C hw hr hf rfl dX5_nameOf_114
              · replace hf := ite_f hf c7
                by_cases c8 : a0 = 107
                · replace hf := ite_t hf c8
                  refine lv_tableIn (tgt := 101) hx hb dX5_nameOf_1 (by rw [c8]; decide) (by rw [c8]; decide) (by rw [c8]; rfl) (by decide) ?_
                  refine lv_bipush (v := -3) hx hb dX5_nameOf_101 (by decide) ?_
                  exact w_iret C hw hr hf rfl dX5_nameOf_103
                · replace hf := ite_f hf c8
                  by_cases c9 : a0 = 108
                  · replace hf := ite_t hf c9
                    refine lv_tableIn (tgt := 104) hx hb dX5_nameOf_1 (by rw [c9]; decide) (by rw [c9]; decide) (by rw [c9]; rfl) (by decide) ?_
                    refine lv_bipush (v := -4) hx hb dX5_nameOf_104 (by decide) ?_
                    exact w_iret C hw hr hf rfl dX5_nameOf_106
                  · replace hf := ite_f hf c9
                    by_cases c10 : a0 = 109
                    · replace hf := ite_t hf c10
                      refine lv_tableIn (tgt := 113) hx hb dX5_nameOf_1 (by rw [c10]; decide) (by rw [c10]; decide) (by rw [c10]; rfl) (by decide) ?_
                      refine lv_iconst (v := 0) hx hb dX5_nameOf_113 (by decide) ?_
                      exact w_iret C hw hr hf rfl dX5_nameOf_114
                    · replace hf := ite_f hf c10
                      by_cases c11 : a0 = 110
                      · replace hf := ite_t hf c11
                        refine lv_tableIn (tgt := 113) hx hb dX5_nameOf_1 (by rw [c11]; decide) (by rw [c11]; decide) (by rw [c11]; rfl) (by decide) ?_
                        refine lv_iconst (v := 0) hx hb dX5_nameOf_113 (by decide) ?_
                        exact w_iret C hw hr hf rfl dX5_nameOf_114
                      · replace hf := ite_f hf c11
                        by_cases c12 : a0 = 111
                        · replace hf := ite_t hf c12
                          refine lv_tableIn (tgt := 113) hx hb dX5_nameOf_1 (by rw [c12]; decide) (by rw [c12]; decide) (by rw [c12]; rfl) (by decide) ?_
                          refine lv_iconst (v := 0) hx hb dX5_nameOf_113 (by decide) ?_
                          exact w_iret C hw hr hf rfl dX5_nameOf_114
                        · replace hf := ite_f hf c12
                          by_cases c13 : a0 = 112
                          · replace hf := ite_t hf c13
                            refine lv_tableIn (tgt := 113) hx hb dX5_nameOf_1 (by rw [c13]; decide) (by rw [c13]; decide) (by rw [c13]; rfl) (by decide) ?_
                            refine lv_iconst (v := 0) hx hb dX5_nameOf_113 (by decide) ?_
                            exact w_iret C hw hr hf rfl dX5_nameOf_114
                          · replace hf := ite_f hf c13
                            by_cases c14 : a0 = 113
                            · replace hf := ite_t hf c14
                              refine lv_tableIn (tgt := 113) hx hb dX5_nameOf_1 (by rw [c14]; decide) (by rw [c14]; decide) (by rw [c14]; rfl) (by decide) ?_
                              refine lv_iconst (v := 0) hx hb dX5_nameOf_113 (by decide) ?_
                              exact w_iret C hw hr hf rfl dX5_nameOf_114
                            · replace hf := ite_f hf c14
                              by_cases c15 : a0 = 114
                              · replace hf := ite_t hf c15
                                refine lv_tableIn (tgt := 113) hx hb dX5_nameOf_1 (by rw [c15]; decide) (by rw [c15]; decide) (by rw [c15]; rfl) (by decide) ?_
                                refine lv_iconst (v := 0) hx hb dX5_nameOf_113 (by decide) ?_
                                exact w_iret C hw hr hf rfl dX5_nameOf_114
                              · replace hf := ite_f hf c15
                                by_cases c16 : a0 = 115
                                · replace hf := ite_t hf c16
                                  refine lv_tableIn (tgt := 110) hx hb dX5_nameOf_1 (by rw [c16]; decide) (by rw [c16]; decide) (by rw [c16]; rfl) (by decide) ?_
                                  refine lv_bipush (v := -6) hx hb dX5_nameOf_110 (by decide) ?_
                                  exact w_iret C hw hr hf rfl dX5_nameOf_112
                                · replace hf := ite_f hf c16
                                  by_cases c17 : a0 = 116
                                  · replace hf := ite_t hf c17
                                    refine lv_tableIn (tgt := 113) hx hb dX5_nameOf_1 (by rw [c17]; decide) (by rw [c17]; decide) (by rw [c17]; rfl) (by decide) ?_
                                    refine lv_iconst (v := 0) hx hb dX5_nameOf_113 (by decide) ?_
                                    exact w_iret C hw hr hf rfl dX5_nameOf_114
                                  · replace hf := ite_f hf c17
                                    by_cases c18 : a0 = 117
                                    · replace hf := ite_t hf c18
                                      refine lv_tableIn (tgt := 113) hx hb dX5_nameOf_1 (by rw [c18]; decide) (by rw [c18]; decide) (by rw [c18]; rfl) (by decide) ?_
                                      refine lv_iconst (v := 0) hx hb dX5_nameOf_113 (by decide) ?_
                                      exact w_iret C hw hr hf rfl dX5_nameOf_114
                                    · replace hf := ite_f hf c18
                                      by_cases c19 : a0 = 118
                                      · replace hf := ite_t hf c19
                                        refine lv_tableIn (tgt := 113) hx hb dX5_nameOf_1 (by rw [c19]; decide) (by rw [c19]; decide) (by rw [c19]; rfl) (by decide) ?_
                                        refine lv_iconst (v := 0) hx hb dX5_nameOf_113 (by decide) ?_
                                        exact w_iret C hw hr hf rfl dX5_nameOf_114
                                      · replace hf := ite_f hf c19
                                        by_cases c20 : a0 = 119
                                        · replace hf := ite_t hf c20
                                          refine lv_tableIn (tgt := 98) hx hb dX5_nameOf_1 (by rw [c20]; decide) (by rw [c20]; decide) (by rw [c20]; rfl) (by decide) ?_
                                          refine lv_bipush (v := -2) hx hb dX5_nameOf_98 (by decide) ?_
                                          exact w_iret C hw hr hf rfl dX5_nameOf_100
                                        · replace hf := ite_f hf c20
                                          refine lv_tableOut (tgt := 113) hx hb dX5_nameOf_1 (by have q0 := ne_toInt (a := 100) c1 (by decide); have q1 := ne_toInt (a := 101) c2 (by decide); have q2 := ne_toInt (a := 102) c3 (by decide); have q3 := ne_toInt (a := 103) c4 (by decide); have q4 := ne_toInt (a := 104) c5 (by decide); have q5 := ne_toInt (a := 105) c6 (by decide); have q6 := ne_toInt (a := 106) c7 (by decide); have q7 := ne_toInt (a := 107) c8 (by decide); have q8 := ne_toInt (a := 108) c9 (by decide); have q9 := ne_toInt (a := 109) c10 (by decide); have q10 := ne_toInt (a := 110) c11 (by decide); have q11 := ne_toInt (a := 111) c12 (by decide); have q12 := ne_toInt (a := 112) c13 (by decide); have q13 := ne_toInt (a := 113) c14 (by decide); have q14 := ne_toInt (a := 114) c15 (by decide); have q15 := ne_toInt (a := 115) c16 (by decide); have q16 := ne_toInt (a := 116) c17 (by decide); have q17 := ne_toInt (a := 117) c18 (by decide); have q18 := ne_toInt (a := 118) c19 (by decide); have q19 := ne_toInt (a := 119) c20 (by decide); omega) (by decide) ?_
                                          refine lv_iconst (v := 0) hx hb dX5_nameOf_113 (by decide) ?_
                                          exact w_iret C hw hr hf rfl dX5_nameOf_114
theorem dX5_signHere_0 : decode cX5_signHere 0 = .ok (.aload_n 0, 1) := by decide +kernel
theorem dX5_signHere_1 : decode cX5_signHere 1 = .ok (.getfield 27, 3) := by decide +kernel
theorem dX5_signHere_4 : decode cX5_signHere 4 = .ok (.aload_n 0, 1) := by decide +kernel
theorem dX5_signHere_5 : decode cX5_signHere 5 = .ok (.getfield 16, 3) := by decide +kernel
theorem dX5_signHere_8 : decode cX5_signHere 8 = .ok (.if_icmp .ge 15, 3) := by decide +kernel
theorem dX5_signHere_11 : decode cX5_signHere 11 = .ok (.aload_n 0, 1) := by decide +kernel
theorem dX5_signHere_12 : decode cX5_signHere 12 = .ok (.getfield 9, 3) := by decide +kernel
theorem dX5_signHere_15 : decode cX5_signHere 15 = .ok (.aload_n 0, 1) := by decide +kernel
theorem dX5_signHere_16 : decode cX5_signHere 16 = .ok (.getfield 27, 3) := by decide +kernel
theorem dX5_signHere_19 : decode cX5_signHere 19 = .ok (.iaload, 1) := by decide +kernel
theorem dX5_signHere_20 : decode cX5_signHere 20 = .ok (.goto 4, 3) := by decide +kernel
theorem dX5_signHere_23 : decode cX5_signHere 23 = .ok (.iconst (-1), 1) := by decide +kernel
theorem dX5_signHere_24 : decode cX5_signHere 24 = .ok (.istore 7, 2) := by decide +kernel
theorem dX5_signHere_26 : decode cX5_signHere 26 = .ok (.iload 7, 2) := by decide +kernel
theorem dX5_signHere_28 : decode cX5_signHere 28 = .ok (.iload_n 1, 1) := by decide +kernel
theorem dX5_signHere_29 : decode cX5_signHere 29 = .ok (.if_icmp .ne 5, 3) := by decide +kernel
theorem dX5_signHere_32 : decode cX5_signHere 32 = .ok (.iload_n 2, 1) := by decide +kernel
theorem dX5_signHere_33 : decode cX5_signHere 33 = .ok (.ireturn, 1) := by decide +kernel
theorem dX5_signHere_34 : decode cX5_signHere 34 = .ok (.iload 7, 2) := by decide +kernel
theorem dX5_signHere_36 : decode cX5_signHere 36 = .ok (.iload_n 3, 1) := by decide +kernel
theorem dX5_signHere_37 : decode cX5_signHere 37 = .ok (.if_icmp .ne 6, 3) := by decide +kernel
theorem dX5_signHere_40 : decode cX5_signHere 40 = .ok (.iload 4, 2) := by decide +kernel
theorem dX5_signHere_42 : decode cX5_signHere 42 = .ok (.ireturn, 1) := by decide +kernel
theorem dX5_signHere_43 : decode cX5_signHere 43 = .ok (.iload 7, 2) := by decide +kernel
theorem dX5_signHere_45 : decode cX5_signHere 45 = .ok (.iload 5, 2) := by decide +kernel
theorem dX5_signHere_47 : decode cX5_signHere 47 = .ok (.if_icmp .ne 8, 3) := by decide +kernel
theorem dX5_signHere_50 : decode cX5_signHere 50 = .ok (.iload 6, 2) := by decide +kernel
theorem dX5_signHere_52 : decode cX5_signHere 52 = .ok (.goto 4, 3) := by decide +kernel
theorem dX5_signHere_55 : decode cX5_signHere 55 = .ok (.iconst 0, 1) := by decide +kernel
theorem dX5_signHere_56 : decode cX5_signHere 56 = .ok (.ireturn, 1) := by decide +kernel
theorem ok_yX5_signHere : yOk yX5_signHere 6 := ⟨by decide +kernel, by decide +kernel, by decide +kernel⟩
def fX5_signHere_24 (st : St) (v1 : Int32) (v2 : Int32) (v3 : Int32) (v4 : Int32) (v5 : Int32) (v6 : Int32) (w0 : Int32) : Option (Int32) := if w0 = v1 then (some v2) else (if w0 = v3 then (some v4) else (if w0 = v5 then (some v6) else (some (0 : Int32))))
set_option maxHeartbeats 4000000 in
theorem tX5_signHere_24 {p : Program} {l : Launch} {e : Env} {s : State} {m : MethodId} {args : Array Value} {below : List Frame} {meth : Method} {c : Code} {X : WX} (C : Amb 65 X p s m args meth c cX5_signHere 8 RX5) (hr : meth.sig.returnType = some .int) {R : Int32} {st : St} : ∀ (v1 : Int32) (v2 : Int32) (v3 : Int32) (v4 : Int32) (v5 : Int32) (v6 : Int32) (w0 : Int32) (H : Heap) (locs : List Loc) (ls : Array Slot), Wd EC 65 X s.heap st H locs → lv_has ls 8 [(1, .int v1), (2, .int v2), (3, .int v3), (4, .int v4), (5, .int v5), (6, .int v6)] → fX5_signHere_24 st v1 v2 v3 v4 v5 v6 w0 = some R → W p l e { frames := 0, cells := 0, slots := 0, locals := 0 } s m args below meth c H locs 0 0 (QI EC 65 X R st below args s) (F0 m 24 ls [.int w0]) := by
  obtain ⟨hx, hb, hml, hown, hts⟩ := id C.1
  intro v1 v2 v3 v4 v5 v6 w0 H locs ls  hw hl hf
  unfold fX5_signHere_24 at hf
  refine lv_istore (lv' := [(7, .int w0), (1, .int v1), (2, .int v2), (3, .int v3), (4, .int v4), (5, .int v5), (6, .int v6)]) hx hb dX5_signHere_24 hl (by decide) rfl (fun ls hl => ?_)
  refine lv_iload hx hb dX5_signHere_26 (lv_at hl 0 rfl) ?_
  refine lv_iload_n hx hb dX5_signHere_28 rfl (lv_at hl 1 rfl) ?_
  refine lv_icmp_ne (tgt := 34) hx hb dX5_signHere_29 (by decide) (fun c3 => ?_) (fun c3 => ?_)
  · replace hf := ite_f hf c3
    refine lv_iload hx hb dX5_signHere_34 (lv_at hl 0 rfl) ?_
    refine lv_iload_n hx hb dX5_signHere_36 rfl (lv_at hl 3 rfl) ?_
    refine lv_icmp_ne (tgt := 43) hx hb dX5_signHere_37 (by decide) (fun c4 => ?_) (fun c4 => ?_)
    · replace hf := ite_f hf c4
      refine lv_iload hx hb dX5_signHere_43 (lv_at hl 0 rfl) ?_
      refine lv_iload hx hb dX5_signHere_45 (lv_at hl 5 rfl) ?_
      refine lv_icmp_ne (tgt := 55) hx hb dX5_signHere_47 (by decide) (fun c5 => ?_) (fun c5 => ?_)
      · replace hf := ite_f hf c5
        refine lv_iconst (v := 0) hx hb dX5_signHere_55 (by decide) ?_
        exact w_iret C hw hr (Option.some.inj hf) rfl dX5_signHere_56
      · replace hf := ite_t hf c5
        refine lv_iload hx hb dX5_signHere_50 (lv_at hl 6 rfl) ?_
        refine lv_goto (tgt := 56) hx hb dX5_signHere_52 (by decide) ?_
        exact w_iret C hw hr (Option.some.inj hf) rfl dX5_signHere_56
    · replace hf := ite_t hf c4
      refine lv_iload hx hb dX5_signHere_40 (lv_at hl 4 rfl) ?_
      exact w_iret C hw hr (Option.some.inj hf) rfl dX5_signHere_42
  · replace hf := ite_t hf c3
    refine lv_iload_n hx hb dX5_signHere_32 rfl (lv_at hl 2 rfl) ?_
    exact w_iret C hw hr (Option.some.inj hf) rfl dX5_signHere_33
def fX5_signHere (st : St) (a1 : Int32) (a2 : Int32) (a3 : Int32) (a4 : Int32) (a5 : Int32) (a6 : Int32) : Option (Int32) := if gI st 21 1 ≤ gI st 21 2 then (fX5_signHere_24 st a1 a2 a3 a4 a5 a6 (-1 : Int32)) else (gd (inB (gI st 21 2) 120) (fX5_signHere_24 st a1 a2 a3 a4 a5 a6 (gI st 22 (gI st 21 2).toNatClampNeg)))
set_option maxHeartbeats 4000000 in
theorem zX5_signHere (l : Launch) (X : WX) (st : St) (a1 : Int32) (a2 : Int32) (a3 : Int32) (a4 : Int32) (a5 : Int32) (a6 : Int32) (R : Int32) (hf : fX5_signHere st a1 a2 a3 a4 a5 a6 = some R) : CtI l yX5_signHere cX5_signHere 8 .int ({ frames := 0, cells := 0, slots := 0, locals := 0 }) EC 65 X [.ref (xq X 21), .int a1, .int a2, .int a3, .int a4, .int a5, .int a6] st R st := by
  refine ct_in (own := RX5) (by decide +kernel) rfl (Nat.le_of_ble_eq_true rfl) (fun p e s m below meth c C hr hw ls hl => ?_)
  obtain ⟨hx, hb, hml, hown, hts⟩ := id C.1
  have hl : lv_has ls 8 [(0, .ref (xq X 21)), (1, .int a1), (2, .int a2), (3, .int a3), (4, .int a4), (5, .int a5), (6, .int a6)] := hl
  unfold fX5_signHere at hf
  refine lv_aload_n hx hb dX5_signHere_0 rfl (lv_at hl 0 rfl) ?_
  refine w_get (T := TX5) C hw (by decide) 2 kf_X5_27 (EC_21 X _ _) rfl inA5 (by decide) rfl dX5_signHere_1 ?_
  refine lv_aload_n hx hb dX5_signHere_4 rfl (lv_at hl 0 rfl) ?_
  refine w_get (T := TX5) C hw (by decide) 1 kf_X5_16 (EC_21 X _ _) rfl inA5 (by decide) rfl dX5_signHere_5 ?_
  refine lv_icmp_ge (tgt := 23) hx hb dX5_signHere_8 (by decide) (fun c1 => ?_) (fun c1 => ?_)
  · replace hf := ite_t hf c1
    refine lv_iconst (v := -1) hx hb dX5_signHere_23 (by decide) ?_
    exact tX5_signHere_24 C hr a1 a2 a3 a4 a5 a6 (-1 : Int32) _ _ _ hw (lv_sub hl [1, 2, 3, 4, 5, 6] rfl) hf
  · replace hf := ite_f hf c1
    refine lv_aload_n hx hb dX5_signHere_11 rfl (lv_at hl 0 rfl) ?_
    refine w_get (T := TX5) C hw (by decide) 0 kf_X5_9 (EC_21 X _ _) rfl inA5 (by decide) rfl dX5_signHere_12 ?_
    refine lv_aload_n hx hb dX5_signHere_15 rfl (lv_at hl 0 rfl) ?_
    refine w_get (T := TX5) C hw (by decide) 2 kf_X5_27 (EC_21 X _ _) rfl inA5 (by decide) rfl dX5_signHere_16 ?_
    obtain ⟨h2, hf⟩ := gd_some hf
    refine w_iald C hw (by decide) (EC_22 X _ _) h2 rfl dX5_signHere_19 ?_
    refine lv_goto (tgt := 24) hx hb dX5_signHere_20 (by decide) ?_
    exact tX5_signHere_24 C hr a1 a2 a3 a4 a5 a6 (gI st 22 (gI st 21 2).toNatClampNeg) _ _ _ hw (lv_sub hl [1, 2, 3, 4, 5, 6] rfl) hf
theorem dX5_readOpened_0 : decode cX5_readOpened 0 = .ok (.aload_n 0, 1) := by decide +kernel
theorem dX5_readOpened_1 : decode cX5_readOpened 1 = .ok (.dup, 1) := by decide +kernel
theorem dX5_readOpened_2 : decode cX5_readOpened 2 = .ok (.getfield 27, 3) := by decide +kernel
theorem dX5_readOpened_5 : decode cX5_readOpened 5 = .ok (.iconst 1, 1) := by decide +kernel
theorem dX5_readOpened_6 : decode cX5_readOpened 6 = .ok (.iadd, 1) := by decide +kernel
theorem dX5_readOpened_7 : decode cX5_readOpened 7 = .ok (.putfield 27, 3) := by decide +kernel
theorem dX5_readOpened_10 : decode cX5_readOpened 10 = .ok (.iload_n 1, 1) := by decide +kernel
theorem dX5_readOpened_11 : decode cX5_readOpened 11 = .ok (.bipush 40, 2) := by decide +kernel
theorem dX5_readOpened_13 : decode cX5_readOpened 13 = .ok (.if_icmp .ne 50, 3) := by decide +kernel
theorem dX5_readOpened_16 : decode cX5_readOpened 16 = .ok (.aload_n 0, 1) := by decide +kernel
theorem dX5_readOpened_17 : decode cX5_readOpened 17 = .ok (.iload_n 2, 1) := by decide +kernel
theorem dX5_readOpened_18 : decode cX5_readOpened 18 = .ok (.invokevirtual 34, 3) := by decide +kernel
theorem dX5_readOpened_21 : decode cX5_readOpened 21 = .ok (.ifCond .eq 28, 3) := by decide +kernel
theorem dX5_readOpened_24 : decode cX5_readOpened 24 = .ok (.aload_n 0, 1) := by decide +kernel
theorem dX5_readOpened_25 : decode cX5_readOpened 25 = .ok (.getfield 27, 3) := by decide +kernel
theorem dX5_readOpened_28 : decode cX5_readOpened 28 = .ok (.aload_n 0, 1) := by decide +kernel
theorem dX5_readOpened_29 : decode cX5_readOpened 29 = .ok (.getfield 16, 3) := by decide +kernel
theorem dX5_readOpened_32 : decode cX5_readOpened 32 = .ok (.if_icmp .ge 17, 3) := by decide +kernel
theorem dX5_readOpened_35 : decode cX5_readOpened 35 = .ok (.aload_n 0, 1) := by decide +kernel
theorem dX5_readOpened_36 : decode cX5_readOpened 36 = .ok (.getfield 9, 3) := by decide +kernel
theorem dX5_readOpened_39 : decode cX5_readOpened 39 = .ok (.aload_n 0, 1) := by decide +kernel
theorem dX5_readOpened_40 : decode cX5_readOpened 40 = .ok (.getfield 27, 3) := by decide +kernel
theorem dX5_readOpened_43 : decode cX5_readOpened 43 = .ok (.iaload, 1) := by decide +kernel
theorem dX5_readOpened_44 : decode cX5_readOpened 44 = .ok (.bipush 41, 2) := by decide +kernel
theorem dX5_readOpened_46 : decode cX5_readOpened 46 = .ok (.if_icmp .eq 5, 3) := by decide +kernel
theorem dX5_readOpened_49 : decode cX5_readOpened 49 = .ok (.iconst 0, 1) := by decide +kernel
theorem dX5_readOpened_50 : decode cX5_readOpened 50 = .ok (.ireturn, 1) := by decide +kernel
theorem dX5_readOpened_51 : decode cX5_readOpened 51 = .ok (.aload_n 0, 1) := by decide +kernel
theorem dX5_readOpened_52 : decode cX5_readOpened 52 = .ok (.dup, 1) := by decide +kernel
theorem dX5_readOpened_53 : decode cX5_readOpened 53 = .ok (.getfield 27, 3) := by decide +kernel
theorem dX5_readOpened_56 : decode cX5_readOpened 56 = .ok (.iconst 1, 1) := by decide +kernel
theorem dX5_readOpened_57 : decode cX5_readOpened 57 = .ok (.iadd, 1) := by decide +kernel
theorem dX5_readOpened_58 : decode cX5_readOpened 58 = .ok (.putfield 27, 3) := by decide +kernel
theorem dX5_readOpened_61 : decode cX5_readOpened 61 = .ok (.iconst 1, 1) := by decide +kernel
theorem dX5_readOpened_62 : decode cX5_readOpened 62 = .ok (.ireturn, 1) := by decide +kernel
theorem dX5_readOpened_63 : decode cX5_readOpened 63 = .ok (.aload_n 0, 1) := by decide +kernel
theorem dX5_readOpened_64 : decode cX5_readOpened 64 = .ok (.iload_n 2, 1) := by decide +kernel
theorem dX5_readOpened_65 : decode cX5_readOpened 65 = .ok (.invokevirtual 58, 3) := by decide +kernel
theorem dX5_readOpened_68 : decode cX5_readOpened 68 = .ok (.ifCond .ne 5, 3) := by decide +kernel
theorem dX5_readOpened_71 : decode cX5_readOpened 71 = .ok (.iconst 0, 1) := by decide +kernel
theorem dX5_readOpened_72 : decode cX5_readOpened 72 = .ok (.ireturn, 1) := by decide +kernel
theorem dX5_readOpened_73 : decode cX5_readOpened 73 = .ok (.aload_n 0, 1) := by decide +kernel
theorem dX5_readOpened_74 : decode cX5_readOpened 74 = .ok (.iload_n 1, 1) := by decide +kernel
theorem dX5_readOpened_75 : decode cX5_readOpened 75 = .ok (.bipush 33, 2) := by decide +kernel
theorem dX5_readOpened_77 : decode cX5_readOpened 77 = .ok (.if_icmp .ne 8, 3) := by decide +kernel
theorem dX5_readOpened_80 : decode cX5_readOpened 80 = .ok (.bipush (-17), 2) := by decide +kernel
theorem dX5_readOpened_82 : decode cX5_readOpened 82 = .ok (.goto 5, 3) := by decide +kernel
theorem dX5_readOpened_85 : decode cX5_readOpened 85 = .ok (.bipush (-18), 2) := by decide +kernel
theorem dX5_readOpened_87 : decode cX5_readOpened 87 = .ok (.invokevirtual 38, 3) := by decide +kernel
theorem dX5_readOpened_90 : decode cX5_readOpened 90 = .ok (.iconst 1, 1) := by decide +kernel
theorem dX5_readOpened_91 : decode cX5_readOpened 91 = .ok (.ireturn, 1) := by decide +kernel
theorem dX5_readOperand_0 : decode cX5_readOperand 0 = .ok (.aload_n 0, 1) := by decide +kernel
theorem dX5_readOperand_1 : decode cX5_readOperand 1 = .ok (.getfield 27, 3) := by decide +kernel
theorem dX5_readOperand_4 : decode cX5_readOperand 4 = .ok (.aload_n 0, 1) := by decide +kernel
theorem dX5_readOperand_5 : decode cX5_readOperand 5 = .ok (.getfield 16, 3) := by decide +kernel
theorem dX5_readOperand_8 : decode cX5_readOperand 8 = .ok (.if_icmp .lt 5, 3) := by decide +kernel
theorem dX5_readOperand_11 : decode cX5_readOperand 11 = .ok (.iconst 0, 1) := by decide +kernel
theorem dX5_readOperand_12 : decode cX5_readOperand 12 = .ok (.ireturn, 1) := by decide +kernel
theorem dX5_readOperand_13 : decode cX5_readOperand 13 = .ok (.aload_n 0, 1) := by decide +kernel
theorem dX5_readOperand_14 : decode cX5_readOperand 14 = .ok (.getfield 9, 3) := by decide +kernel
theorem dX5_readOperand_17 : decode cX5_readOperand 17 = .ok (.aload_n 0, 1) := by decide +kernel
theorem dX5_readOperand_18 : decode cX5_readOperand 18 = .ok (.getfield 27, 3) := by decide +kernel
theorem dX5_readOperand_21 : decode cX5_readOperand 21 = .ok (.iaload, 1) := by decide +kernel
theorem dX5_readOperand_22 : decode cX5_readOperand 22 = .ok (.istore_n 2, 1) := by decide +kernel
theorem dX5_readOperand_23 : decode cX5_readOperand 23 = .ok (.iload_n 2, 1) := by decide +kernel
theorem dX5_readOperand_24 : decode cX5_readOperand 24 = .ok (.bipush 48, 2) := by decide +kernel
theorem dX5_readOperand_26 : decode cX5_readOperand 26 = .ok (.if_icmp .lt 15, 3) := by decide +kernel
theorem dX5_readOperand_29 : decode cX5_readOperand 29 = .ok (.iload_n 2, 1) := by decide +kernel
theorem dX5_readOperand_30 : decode cX5_readOperand 30 = .ok (.bipush 57, 2) := by decide +kernel
theorem dX5_readOperand_32 : decode cX5_readOperand 32 = .ok (.if_icmp .gt 9, 3) := by decide +kernel
theorem dX5_readOperand_35 : decode cX5_readOperand 35 = .ok (.aload_n 0, 1) := by decide +kernel
theorem dX5_readOperand_36 : decode cX5_readOperand 36 = .ok (.invokevirtual 61, 3) := by decide +kernel
theorem dX5_readOperand_39 : decode cX5_readOperand 39 = .ok (.iconst 1, 1) := by decide +kernel
theorem dX5_readOperand_40 : decode cX5_readOperand 40 = .ok (.ireturn, 1) := by decide +kernel
theorem dX5_readOperand_41 : decode cX5_readOperand 41 = .ok (.iload_n 2, 1) := by decide +kernel
theorem dX5_readOperand_42 : decode cX5_readOperand 42 = .ok (.bipush 40, 2) := by decide +kernel
theorem dX5_readOperand_44 : decode cX5_readOperand 44 = .ok (.if_icmp .eq 15, 3) := by decide +kernel
theorem dX5_readOperand_47 : decode cX5_readOperand 47 = .ok (.iload_n 2, 1) := by decide +kernel
theorem dX5_readOperand_48 : decode cX5_readOperand 48 = .ok (.bipush 33, 2) := by decide +kernel
theorem dX5_readOperand_50 : decode cX5_readOperand 50 = .ok (.if_icmp .eq 9, 3) := by decide +kernel
theorem dX5_readOperand_53 : decode cX5_readOperand 53 = .ok (.iload_n 2, 1) := by decide +kernel
theorem dX5_readOperand_54 : decode cX5_readOperand 54 = .ok (.bipush 45, 2) := by decide +kernel
theorem dX5_readOperand_56 : decode cX5_readOperand 56 = .ok (.if_icmp .ne 26, 3) := by decide +kernel
theorem dX5_readOperand_59 : decode cX5_readOperand 59 = .ok (.iload_n 1, 1) := by decide +kernel
theorem dX5_readOperand_60 : decode cX5_readOperand 60 = .ok (.bipush 6, 2) := by decide +kernel
theorem dX5_readOperand_62 : decode cX5_readOperand 62 = .ok (.if_icmp .ge 18, 3) := by decide +kernel
theorem dX5_readOperand_65 : decode cX5_readOperand 65 = .ok (.aload_n 0, 1) := by decide +kernel
theorem dX5_readOperand_66 : decode cX5_readOperand 66 = .ok (.iload_n 2, 1) := by decide +kernel
theorem dX5_readOperand_67 : decode cX5_readOperand 67 = .ok (.iload_n 1, 1) := by decide +kernel
theorem dX5_readOperand_68 : decode cX5_readOperand 68 = .ok (.iconst 1, 1) := by decide +kernel
theorem dX5_readOperand_69 : decode cX5_readOperand 69 = .ok (.iadd, 1) := by decide +kernel
theorem dX5_readOperand_70 : decode cX5_readOperand 70 = .ok (.invokevirtual 64, 3) := by decide +kernel
theorem dX5_readOperand_73 : decode cX5_readOperand 73 = .ok (.ifCond .eq 7, 3) := by decide +kernel
theorem dX5_readOperand_76 : decode cX5_readOperand 76 = .ok (.iconst 1, 1) := by decide +kernel
theorem dX5_readOperand_77 : decode cX5_readOperand 77 = .ok (.goto 4, 3) := by decide +kernel
theorem dX5_readOperand_80 : decode cX5_readOperand 80 = .ok (.iconst 0, 1) := by decide +kernel
theorem dX5_readOperand_81 : decode cX5_readOperand 81 = .ok (.ireturn, 1) := by decide +kernel
theorem dX5_readOperand_82 : decode cX5_readOperand 82 = .ok (.iload_n 2, 1) := by decide +kernel
theorem dX5_readOperand_83 : decode cX5_readOperand 83 = .ok (.invokestatic 68, 3) := by decide +kernel
theorem dX5_readOperand_86 : decode cX5_readOperand 86 = .ok (.istore_n 3, 1) := by decide +kernel
theorem dX5_readOperand_87 : decode cX5_readOperand 87 = .ok (.iload_n 3, 1) := by decide +kernel
theorem dX5_readOperand_88 : decode cX5_readOperand 88 = .ok (.ifCond .ne 5, 3) := by decide +kernel
theorem dX5_readOperand_91 : decode cX5_readOperand 91 = .ok (.iconst 0, 1) := by decide +kernel
theorem dX5_readOperand_92 : decode cX5_readOperand 92 = .ok (.ireturn, 1) := by decide +kernel
theorem dX5_readOperand_93 : decode cX5_readOperand 93 = .ok (.aload_n 0, 1) := by decide +kernel
theorem dX5_readOperand_94 : decode cX5_readOperand 94 = .ok (.dup, 1) := by decide +kernel
theorem dX5_readOperand_95 : decode cX5_readOperand 95 = .ok (.getfield 27, 3) := by decide +kernel
theorem dX5_readOperand_98 : decode cX5_readOperand 98 = .ok (.iconst 1, 1) := by decide +kernel
theorem dX5_readOperand_99 : decode cX5_readOperand 99 = .ok (.iadd, 1) := by decide +kernel
theorem dX5_readOperand_100 : decode cX5_readOperand 100 = .ok (.putfield 27, 3) := by decide +kernel
theorem dX5_readOperand_103 : decode cX5_readOperand 103 = .ok (.aload_n 0, 1) := by decide +kernel
theorem dX5_readOperand_104 : decode cX5_readOperand 104 = .ok (.iload_n 3, 1) := by decide +kernel
theorem dX5_readOperand_105 : decode cX5_readOperand 105 = .ok (.invokevirtual 38, 3) := by decide +kernel
theorem dX5_readOperand_108 : decode cX5_readOperand 108 = .ok (.iconst 1, 1) := by decide +kernel
theorem dX5_readOperand_109 : decode cX5_readOperand 109 = .ok (.ireturn, 1) := by decide +kernel
theorem dX5_readProduct_0 : decode cX5_readProduct 0 = .ok (.aload_n 0, 1) := by decide +kernel
theorem dX5_readProduct_1 : decode cX5_readProduct 1 = .ok (.iload_n 1, 1) := by decide +kernel
theorem dX5_readProduct_2 : decode cX5_readProduct 2 = .ok (.invokevirtual 58, 3) := by decide +kernel
theorem dX5_readProduct_5 : decode cX5_readProduct 5 = .ok (.ifCond .ne 5, 3) := by decide +kernel
theorem dX5_readProduct_8 : decode cX5_readProduct 8 = .ok (.iconst 0, 1) := by decide +kernel
theorem dX5_readProduct_9 : decode cX5_readProduct 9 = .ok (.ireturn, 1) := by decide +kernel
theorem dX5_readProduct_10 : decode cX5_readProduct 10 = .ok (.aload_n 0, 1) := by decide +kernel
theorem dX5_readProduct_11 : decode cX5_readProduct 11 = .ok (.getfield 27, 3) := by decide +kernel
theorem dX5_readProduct_14 : decode cX5_readProduct 14 = .ok (.aload_n 0, 1) := by decide +kernel
theorem dX5_readProduct_15 : decode cX5_readProduct 15 = .ok (.getfield 16, 3) := by decide +kernel
theorem dX5_readProduct_18 : decode cX5_readProduct 18 = .ok (.if_icmp .ge 90, 3) := by decide +kernel
theorem dX5_readProduct_21 : decode cX5_readProduct 21 = .ok (.aload_n 0, 1) := by decide +kernel
theorem dX5_readProduct_22 : decode cX5_readProduct 22 = .ok (.getfield 9, 3) := by decide +kernel
theorem dX5_readProduct_25 : decode cX5_readProduct 25 = .ok (.aload_n 0, 1) := by decide +kernel
theorem dX5_readProduct_26 : decode cX5_readProduct 26 = .ok (.getfield 27, 3) := by decide +kernel
theorem dX5_readProduct_29 : decode cX5_readProduct 29 = .ok (.iaload, 1) := by decide +kernel
theorem dX5_readProduct_30 : decode cX5_readProduct 30 = .ok (.bipush 42, 2) := by decide +kernel
theorem dX5_readProduct_32 : decode cX5_readProduct 32 = .ok (.if_icmp .eq 31, 3) := by decide +kernel
theorem dX5_readProduct_35 : decode cX5_readProduct 35 = .ok (.aload_n 0, 1) := by decide +kernel
theorem dX5_readProduct_36 : decode cX5_readProduct 36 = .ok (.getfield 9, 3) := by decide +kernel
theorem dX5_readProduct_39 : decode cX5_readProduct 39 = .ok (.aload_n 0, 1) := by decide +kernel
theorem dX5_readProduct_40 : decode cX5_readProduct 40 = .ok (.getfield 27, 3) := by decide +kernel
theorem dX5_readProduct_43 : decode cX5_readProduct 43 = .ok (.iaload, 1) := by decide +kernel
theorem dX5_readProduct_44 : decode cX5_readProduct 44 = .ok (.bipush 47, 2) := by decide +kernel
theorem dX5_readProduct_46 : decode cX5_readProduct 46 = .ok (.if_icmp .eq 17, 3) := by decide +kernel
theorem dX5_readProduct_49 : decode cX5_readProduct 49 = .ok (.aload_n 0, 1) := by decide +kernel
theorem dX5_readProduct_50 : decode cX5_readProduct 50 = .ok (.getfield 9, 3) := by decide +kernel
theorem dX5_readProduct_53 : decode cX5_readProduct 53 = .ok (.aload_n 0, 1) := by decide +kernel
theorem dX5_readProduct_54 : decode cX5_readProduct 54 = .ok (.getfield 27, 3) := by decide +kernel
theorem dX5_readProduct_57 : decode cX5_readProduct 57 = .ok (.iaload, 1) := by decide +kernel
theorem dX5_readProduct_58 : decode cX5_readProduct 58 = .ok (.bipush 37, 2) := by decide +kernel
theorem dX5_readProduct_60 : decode cX5_readProduct 60 = .ok (.if_icmp .ne 48, 3) := by decide +kernel
theorem dX5_readProduct_63 : decode cX5_readProduct 63 = .ok (.aload_n 0, 1) := by decide +kernel
theorem dX5_readProduct_64 : decode cX5_readProduct 64 = .ok (.bipush 42, 2) := by decide +kernel
theorem dX5_readProduct_66 : decode cX5_readProduct 66 = .ok (.bipush (-14), 2) := by decide +kernel
theorem dX5_readProduct_68 : decode cX5_readProduct 68 = .ok (.bipush 47, 2) := by decide +kernel
theorem dX5_readProduct_70 : decode cX5_readProduct 70 = .ok (.bipush (-15), 2) := by decide +kernel
theorem dX5_readProduct_72 : decode cX5_readProduct 72 = .ok (.bipush 37, 2) := by decide +kernel
theorem dX5_readProduct_74 : decode cX5_readProduct 74 = .ok (.bipush (-16), 2) := by decide +kernel
theorem dX5_readProduct_76 : decode cX5_readProduct 76 = .ok (.invokevirtual 51, 3) := by decide +kernel
theorem dX5_readProduct_79 : decode cX5_readProduct 79 = .ok (.istore_n 2, 1) := by decide +kernel
theorem dX5_readProduct_80 : decode cX5_readProduct 80 = .ok (.aload_n 0, 1) := by decide +kernel
theorem dX5_readProduct_81 : decode cX5_readProduct 81 = .ok (.dup, 1) := by decide +kernel
theorem dX5_readProduct_82 : decode cX5_readProduct 82 = .ok (.getfield 27, 3) := by decide +kernel
theorem dX5_readProduct_85 : decode cX5_readProduct 85 = .ok (.iconst 1, 1) := by decide +kernel
theorem dX5_readProduct_86 : decode cX5_readProduct 86 = .ok (.iadd, 1) := by decide +kernel
theorem dX5_readProduct_87 : decode cX5_readProduct 87 = .ok (.putfield 27, 3) := by decide +kernel
theorem dX5_readProduct_90 : decode cX5_readProduct 90 = .ok (.aload_n 0, 1) := by decide +kernel
theorem dX5_readProduct_91 : decode cX5_readProduct 91 = .ok (.iload_n 1, 1) := by decide +kernel
theorem dX5_readProduct_92 : decode cX5_readProduct 92 = .ok (.invokevirtual 58, 3) := by decide +kernel
theorem dX5_readProduct_95 : decode cX5_readProduct 95 = .ok (.ifCond .ne 5, 3) := by decide +kernel
theorem dX5_readProduct_98 : decode cX5_readProduct 98 = .ok (.iconst 0, 1) := by decide +kernel
theorem dX5_readProduct_99 : decode cX5_readProduct 99 = .ok (.ireturn, 1) := by decide +kernel
theorem dX5_readProduct_100 : decode cX5_readProduct 100 = .ok (.aload_n 0, 1) := by decide +kernel
theorem dX5_readProduct_101 : decode cX5_readProduct 101 = .ok (.iload_n 2, 1) := by decide +kernel
theorem dX5_readProduct_102 : decode cX5_readProduct 102 = .ok (.invokevirtual 38, 3) := by decide +kernel
theorem dX5_readProduct_105 : decode cX5_readProduct 105 = .ok (.goto (-95), 3) := by decide +kernel
theorem dX5_readProduct_108 : decode cX5_readProduct 108 = .ok (.iconst 1, 1) := by decide +kernel
theorem dX5_readProduct_109 : decode cX5_readProduct 109 = .ok (.ireturn, 1) := by decide +kernel
theorem dX5_readSum_0 : decode cX5_readSum 0 = .ok (.aload_n 0, 1) := by decide +kernel
theorem dX5_readSum_1 : decode cX5_readSum 1 = .ok (.iload_n 1, 1) := by decide +kernel
theorem dX5_readSum_2 : decode cX5_readSum 2 = .ok (.invokevirtual 55, 3) := by decide +kernel
theorem dX5_readSum_5 : decode cX5_readSum 5 = .ok (.ifCond .ne 5, 3) := by decide +kernel
theorem dX5_readSum_8 : decode cX5_readSum 8 = .ok (.iconst 0, 1) := by decide +kernel
theorem dX5_readSum_9 : decode cX5_readSum 9 = .ok (.ireturn, 1) := by decide +kernel
theorem dX5_readSum_10 : decode cX5_readSum 10 = .ok (.aload_n 0, 1) := by decide +kernel
theorem dX5_readSum_11 : decode cX5_readSum 11 = .ok (.getfield 27, 3) := by decide +kernel
theorem dX5_readSum_14 : decode cX5_readSum 14 = .ok (.aload_n 0, 1) := by decide +kernel
theorem dX5_readSum_15 : decode cX5_readSum 15 = .ok (.getfield 16, 3) := by decide +kernel
theorem dX5_readSum_18 : decode cX5_readSum 18 = .ok (.if_icmp .ge 81, 3) := by decide +kernel
theorem dX5_readSum_21 : decode cX5_readSum 21 = .ok (.aload_n 0, 1) := by decide +kernel
theorem dX5_readSum_22 : decode cX5_readSum 22 = .ok (.getfield 9, 3) := by decide +kernel
theorem dX5_readSum_25 : decode cX5_readSum 25 = .ok (.aload_n 0, 1) := by decide +kernel
theorem dX5_readSum_26 : decode cX5_readSum 26 = .ok (.getfield 27, 3) := by decide +kernel
theorem dX5_readSum_29 : decode cX5_readSum 29 = .ok (.iaload, 1) := by decide +kernel
theorem dX5_readSum_30 : decode cX5_readSum 30 = .ok (.bipush 43, 2) := by decide +kernel
theorem dX5_readSum_32 : decode cX5_readSum 32 = .ok (.if_icmp .eq 17, 3) := by decide +kernel
theorem dX5_readSum_35 : decode cX5_readSum 35 = .ok (.aload_n 0, 1) := by decide +kernel
theorem dX5_readSum_36 : decode cX5_readSum 36 = .ok (.getfield 9, 3) := by decide +kernel
theorem dX5_readSum_39 : decode cX5_readSum 39 = .ok (.aload_n 0, 1) := by decide +kernel
theorem dX5_readSum_40 : decode cX5_readSum 40 = .ok (.getfield 27, 3) := by decide +kernel
theorem dX5_readSum_43 : decode cX5_readSum 43 = .ok (.iaload, 1) := by decide +kernel
theorem dX5_readSum_44 : decode cX5_readSum 44 = .ok (.bipush 45, 2) := by decide +kernel
theorem dX5_readSum_46 : decode cX5_readSum 46 = .ok (.if_icmp .ne 53, 3) := by decide +kernel
theorem dX5_readSum_49 : decode cX5_readSum 49 = .ok (.aload_n 0, 1) := by decide +kernel
theorem dX5_readSum_50 : decode cX5_readSum 50 = .ok (.getfield 9, 3) := by decide +kernel
theorem dX5_readSum_53 : decode cX5_readSum 53 = .ok (.aload_n 0, 1) := by decide +kernel
theorem dX5_readSum_54 : decode cX5_readSum 54 = .ok (.getfield 27, 3) := by decide +kernel
theorem dX5_readSum_57 : decode cX5_readSum 57 = .ok (.iaload, 1) := by decide +kernel
theorem dX5_readSum_58 : decode cX5_readSum 58 = .ok (.bipush 43, 2) := by decide +kernel
theorem dX5_readSum_60 : decode cX5_readSum 60 = .ok (.if_icmp .ne 8, 3) := by decide +kernel
theorem dX5_readSum_63 : decode cX5_readSum 63 = .ok (.bipush (-12), 2) := by decide +kernel
theorem dX5_readSum_65 : decode cX5_readSum 65 = .ok (.goto 5, 3) := by decide +kernel
theorem dX5_readSum_68 : decode cX5_readSum 68 = .ok (.bipush (-13), 2) := by decide +kernel
theorem dX5_readSum_70 : decode cX5_readSum 70 = .ok (.istore_n 2, 1) := by decide +kernel
theorem dX5_readSum_71 : decode cX5_readSum 71 = .ok (.aload_n 0, 1) := by decide +kernel
theorem dX5_readSum_72 : decode cX5_readSum 72 = .ok (.dup, 1) := by decide +kernel
theorem dX5_readSum_73 : decode cX5_readSum 73 = .ok (.getfield 27, 3) := by decide +kernel
theorem dX5_readSum_76 : decode cX5_readSum 76 = .ok (.iconst 1, 1) := by decide +kernel
theorem dX5_readSum_77 : decode cX5_readSum 77 = .ok (.iadd, 1) := by decide +kernel
theorem dX5_readSum_78 : decode cX5_readSum 78 = .ok (.putfield 27, 3) := by decide +kernel
theorem dX5_readSum_81 : decode cX5_readSum 81 = .ok (.aload_n 0, 1) := by decide +kernel
theorem dX5_readSum_82 : decode cX5_readSum 82 = .ok (.iload_n 1, 1) := by decide +kernel
theorem dX5_readSum_83 : decode cX5_readSum 83 = .ok (.invokevirtual 55, 3) := by decide +kernel
theorem dX5_readSum_86 : decode cX5_readSum 86 = .ok (.ifCond .ne 5, 3) := by decide +kernel
theorem dX5_readSum_89 : decode cX5_readSum 89 = .ok (.iconst 0, 1) := by decide +kernel
theorem dX5_readSum_90 : decode cX5_readSum 90 = .ok (.ireturn, 1) := by decide +kernel
theorem dX5_readSum_91 : decode cX5_readSum 91 = .ok (.aload_n 0, 1) := by decide +kernel
theorem dX5_readSum_92 : decode cX5_readSum 92 = .ok (.iload_n 2, 1) := by decide +kernel
theorem dX5_readSum_93 : decode cX5_readSum 93 = .ok (.invokevirtual 38, 3) := by decide +kernel
theorem dX5_readSum_96 : decode cX5_readSum 96 = .ok (.goto (-86), 3) := by decide +kernel
theorem dX5_readSum_99 : decode cX5_readSum 99 = .ok (.iconst 1, 1) := by decide +kernel
theorem dX5_readSum_100 : decode cX5_readSum 100 = .ok (.ireturn, 1) := by decide +kernel
theorem dX5_readCompared_0 : decode cX5_readCompared 0 = .ok (.aload_n 0, 1) := by decide +kernel
theorem dX5_readCompared_1 : decode cX5_readCompared 1 = .ok (.iload_n 1, 1) := by decide +kernel
theorem dX5_readCompared_2 : decode cX5_readCompared 2 = .ok (.invokevirtual 48, 3) := by decide +kernel
theorem dX5_readCompared_5 : decode cX5_readCompared 5 = .ok (.ifCond .ne 5, 3) := by decide +kernel
theorem dX5_readCompared_8 : decode cX5_readCompared 8 = .ok (.iconst 0, 1) := by decide +kernel
theorem dX5_readCompared_9 : decode cX5_readCompared 9 = .ok (.ireturn, 1) := by decide +kernel
theorem dX5_readCompared_10 : decode cX5_readCompared 10 = .ok (.aload_n 0, 1) := by decide +kernel
theorem dX5_readCompared_11 : decode cX5_readCompared 11 = .ok (.bipush 60, 2) := by decide +kernel
theorem dX5_readCompared_13 : decode cX5_readCompared 13 = .ok (.bipush (-9), 2) := by decide +kernel
theorem dX5_readCompared_15 : decode cX5_readCompared 15 = .ok (.bipush 61, 2) := by decide +kernel
theorem dX5_readCompared_17 : decode cX5_readCompared 17 = .ok (.bipush (-10), 2) := by decide +kernel
theorem dX5_readCompared_19 : decode cX5_readCompared 19 = .ok (.bipush 62, 2) := by decide +kernel
theorem dX5_readCompared_21 : decode cX5_readCompared 21 = .ok (.bipush (-11), 2) := by decide +kernel
theorem dX5_readCompared_23 : decode cX5_readCompared 23 = .ok (.invokevirtual 51, 3) := by decide +kernel
theorem dX5_readCompared_26 : decode cX5_readCompared 26 = .ok (.istore_n 2, 1) := by decide +kernel
theorem dX5_readCompared_27 : decode cX5_readCompared 27 = .ok (.iload_n 2, 1) := by decide +kernel
theorem dX5_readCompared_28 : decode cX5_readCompared 28 = .ok (.ifCond .ne 5, 3) := by decide +kernel
theorem dX5_readCompared_31 : decode cX5_readCompared 31 = .ok (.iconst 1, 1) := by decide +kernel
theorem dX5_readCompared_32 : decode cX5_readCompared 32 = .ok (.ireturn, 1) := by decide +kernel
theorem dX5_readCompared_33 : decode cX5_readCompared 33 = .ok (.aload_n 0, 1) := by decide +kernel
theorem dX5_readCompared_34 : decode cX5_readCompared 34 = .ok (.dup, 1) := by decide +kernel
theorem dX5_readCompared_35 : decode cX5_readCompared 35 = .ok (.getfield 27, 3) := by decide +kernel
theorem dX5_readCompared_38 : decode cX5_readCompared 38 = .ok (.iconst 1, 1) := by decide +kernel
theorem dX5_readCompared_39 : decode cX5_readCompared 39 = .ok (.iadd, 1) := by decide +kernel
theorem dX5_readCompared_40 : decode cX5_readCompared 40 = .ok (.putfield 27, 3) := by decide +kernel
theorem dX5_readCompared_43 : decode cX5_readCompared 43 = .ok (.aload_n 0, 1) := by decide +kernel
theorem dX5_readCompared_44 : decode cX5_readCompared 44 = .ok (.iload_n 1, 1) := by decide +kernel
theorem dX5_readCompared_45 : decode cX5_readCompared 45 = .ok (.invokevirtual 48, 3) := by decide +kernel
theorem dX5_readCompared_48 : decode cX5_readCompared 48 = .ok (.ifCond .ne 5, 3) := by decide +kernel
theorem dX5_readCompared_51 : decode cX5_readCompared 51 = .ok (.iconst 0, 1) := by decide +kernel
theorem dX5_readCompared_52 : decode cX5_readCompared 52 = .ok (.ireturn, 1) := by decide +kernel
theorem dX5_readCompared_53 : decode cX5_readCompared 53 = .ok (.aload_n 0, 1) := by decide +kernel
theorem dX5_readCompared_54 : decode cX5_readCompared 54 = .ok (.iload_n 2, 1) := by decide +kernel
theorem dX5_readCompared_55 : decode cX5_readCompared 55 = .ok (.invokevirtual 38, 3) := by decide +kernel
theorem dX5_readCompared_58 : decode cX5_readCompared 58 = .ok (.iconst 1, 1) := by decide +kernel
theorem dX5_readCompared_59 : decode cX5_readCompared 59 = .ok (.ireturn, 1) := by decide +kernel
theorem dX5_readBoth_0 : decode cX5_readBoth 0 = .ok (.aload_n 0, 1) := by decide +kernel
theorem dX5_readBoth_1 : decode cX5_readBoth 1 = .ok (.iload_n 1, 1) := by decide +kernel
theorem dX5_readBoth_2 : decode cX5_readBoth 2 = .ok (.invokevirtual 45, 3) := by decide +kernel
theorem dX5_readBoth_5 : decode cX5_readBoth 5 = .ok (.ifCond .ne 5, 3) := by decide +kernel
theorem dX5_readBoth_8 : decode cX5_readBoth 8 = .ok (.iconst 0, 1) := by decide +kernel
theorem dX5_readBoth_9 : decode cX5_readBoth 9 = .ok (.ireturn, 1) := by decide +kernel
theorem dX5_readBoth_10 : decode cX5_readBoth 10 = .ok (.aload_n 0, 1) := by decide +kernel
theorem dX5_readBoth_11 : decode cX5_readBoth 11 = .ok (.getfield 27, 3) := by decide +kernel
theorem dX5_readBoth_14 : decode cX5_readBoth 14 = .ok (.aload_n 0, 1) := by decide +kernel
theorem dX5_readBoth_15 : decode cX5_readBoth 15 = .ok (.getfield 16, 3) := by decide +kernel
theorem dX5_readBoth_18 : decode cX5_readBoth 18 = .ok (.if_icmp .ge 46, 3) := by decide +kernel
theorem dX5_readBoth_21 : decode cX5_readBoth 21 = .ok (.aload_n 0, 1) := by decide +kernel
theorem dX5_readBoth_22 : decode cX5_readBoth 22 = .ok (.getfield 9, 3) := by decide +kernel
theorem dX5_readBoth_25 : decode cX5_readBoth 25 = .ok (.aload_n 0, 1) := by decide +kernel
theorem dX5_readBoth_26 : decode cX5_readBoth 26 = .ok (.getfield 27, 3) := by decide +kernel
theorem dX5_readBoth_29 : decode cX5_readBoth 29 = .ok (.iaload, 1) := by decide +kernel
theorem dX5_readBoth_30 : decode cX5_readBoth 30 = .ok (.bipush 38, 2) := by decide +kernel
theorem dX5_readBoth_32 : decode cX5_readBoth 32 = .ok (.if_icmp .ne 32, 3) := by decide +kernel
theorem dX5_readBoth_35 : decode cX5_readBoth 35 = .ok (.aload_n 0, 1) := by decide +kernel
theorem dX5_readBoth_36 : decode cX5_readBoth 36 = .ok (.dup, 1) := by decide +kernel
theorem dX5_readBoth_37 : decode cX5_readBoth 37 = .ok (.getfield 27, 3) := by decide +kernel
theorem dX5_readBoth_40 : decode cX5_readBoth 40 = .ok (.iconst 1, 1) := by decide +kernel
theorem dX5_readBoth_41 : decode cX5_readBoth 41 = .ok (.iadd, 1) := by decide +kernel
theorem dX5_readBoth_42 : decode cX5_readBoth 42 = .ok (.putfield 27, 3) := by decide +kernel
theorem dX5_readBoth_45 : decode cX5_readBoth 45 = .ok (.aload_n 0, 1) := by decide +kernel
theorem dX5_readBoth_46 : decode cX5_readBoth 46 = .ok (.iload_n 1, 1) := by decide +kernel
theorem dX5_readBoth_47 : decode cX5_readBoth 47 = .ok (.invokevirtual 45, 3) := by decide +kernel
theorem dX5_readBoth_50 : decode cX5_readBoth 50 = .ok (.ifCond .ne 5, 3) := by decide +kernel
theorem dX5_readBoth_53 : decode cX5_readBoth 53 = .ok (.iconst 0, 1) := by decide +kernel
theorem dX5_readBoth_54 : decode cX5_readBoth 54 = .ok (.ireturn, 1) := by decide +kernel
theorem dX5_readBoth_55 : decode cX5_readBoth 55 = .ok (.aload_n 0, 1) := by decide +kernel
theorem dX5_readBoth_56 : decode cX5_readBoth 56 = .ok (.bipush (-8), 2) := by decide +kernel
theorem dX5_readBoth_58 : decode cX5_readBoth 58 = .ok (.invokevirtual 38, 3) := by decide +kernel
theorem dX5_readBoth_61 : decode cX5_readBoth 61 = .ok (.goto (-51), 3) := by decide +kernel
theorem dX5_readBoth_64 : decode cX5_readBoth 64 = .ok (.iconst 1, 1) := by decide +kernel
theorem dX5_readBoth_65 : decode cX5_readBoth 65 = .ok (.ireturn, 1) := by decide +kernel
theorem dX5_readEither_0 : decode cX5_readEither 0 = .ok (.aload_n 0, 1) := by decide +kernel
theorem dX5_readEither_1 : decode cX5_readEither 1 = .ok (.iload_n 1, 1) := by decide +kernel
theorem dX5_readEither_2 : decode cX5_readEither 2 = .ok (.invokevirtual 42, 3) := by decide +kernel
theorem dX5_readEither_5 : decode cX5_readEither 5 = .ok (.ifCond .ne 5, 3) := by decide +kernel
theorem dX5_readEither_8 : decode cX5_readEither 8 = .ok (.iconst 0, 1) := by decide +kernel
theorem dX5_readEither_9 : decode cX5_readEither 9 = .ok (.ireturn, 1) := by decide +kernel
theorem dX5_readEither_10 : decode cX5_readEither 10 = .ok (.aload_n 0, 1) := by decide +kernel
theorem dX5_readEither_11 : decode cX5_readEither 11 = .ok (.getfield 27, 3) := by decide +kernel
theorem dX5_readEither_14 : decode cX5_readEither 14 = .ok (.aload_n 0, 1) := by decide +kernel
theorem dX5_readEither_15 : decode cX5_readEither 15 = .ok (.getfield 16, 3) := by decide +kernel
theorem dX5_readEither_18 : decode cX5_readEither 18 = .ok (.if_icmp .ge 46, 3) := by decide +kernel
theorem dX5_readEither_21 : decode cX5_readEither 21 = .ok (.aload_n 0, 1) := by decide +kernel
theorem dX5_readEither_22 : decode cX5_readEither 22 = .ok (.getfield 9, 3) := by decide +kernel
theorem dX5_readEither_25 : decode cX5_readEither 25 = .ok (.aload_n 0, 1) := by decide +kernel
theorem dX5_readEither_26 : decode cX5_readEither 26 = .ok (.getfield 27, 3) := by decide +kernel
theorem dX5_readEither_29 : decode cX5_readEither 29 = .ok (.iaload, 1) := by decide +kernel
theorem dX5_readEither_30 : decode cX5_readEither 30 = .ok (.bipush 124, 2) := by decide +kernel
theorem dX5_readEither_32 : decode cX5_readEither 32 = .ok (.if_icmp .ne 32, 3) := by decide +kernel
theorem dX5_readEither_35 : decode cX5_readEither 35 = .ok (.aload_n 0, 1) := by decide +kernel
theorem dX5_readEither_36 : decode cX5_readEither 36 = .ok (.dup, 1) := by decide +kernel
theorem dX5_readEither_37 : decode cX5_readEither 37 = .ok (.getfield 27, 3) := by decide +kernel
theorem dX5_readEither_40 : decode cX5_readEither 40 = .ok (.iconst 1, 1) := by decide +kernel
theorem dX5_readEither_41 : decode cX5_readEither 41 = .ok (.iadd, 1) := by decide +kernel
theorem dX5_readEither_42 : decode cX5_readEither 42 = .ok (.putfield 27, 3) := by decide +kernel
theorem dX5_readEither_45 : decode cX5_readEither 45 = .ok (.aload_n 0, 1) := by decide +kernel
theorem dX5_readEither_46 : decode cX5_readEither 46 = .ok (.iload_n 1, 1) := by decide +kernel
theorem dX5_readEither_47 : decode cX5_readEither 47 = .ok (.invokevirtual 42, 3) := by decide +kernel
theorem dX5_readEither_50 : decode cX5_readEither 50 = .ok (.ifCond .ne 5, 3) := by decide +kernel
theorem dX5_readEither_53 : decode cX5_readEither 53 = .ok (.iconst 0, 1) := by decide +kernel
theorem dX5_readEither_54 : decode cX5_readEither 54 = .ok (.ireturn, 1) := by decide +kernel
theorem dX5_readEither_55 : decode cX5_readEither 55 = .ok (.aload_n 0, 1) := by decide +kernel
theorem dX5_readEither_56 : decode cX5_readEither 56 = .ok (.bipush (-7), 2) := by decide +kernel
theorem dX5_readEither_58 : decode cX5_readEither 58 = .ok (.invokevirtual 38, 3) := by decide +kernel
theorem dX5_readEither_61 : decode cX5_readEither 61 = .ok (.goto (-51), 3) := by decide +kernel
theorem dX5_readEither_64 : decode cX5_readEither 64 = .ok (.iconst 1, 1) := by decide +kernel
theorem dX5_readEither_65 : decode cX5_readEither 65 = .ok (.ireturn, 1) := by decide +kernel
theorem ok_yX5_readOpened : yOk yX5_readOpened 2 := ⟨by decide +kernel, by decide +kernel, by decide +kernel⟩
theorem ok_yX5_readOperand : yOk yX5_readOperand 1 := ⟨by decide +kernel, by decide +kernel, by decide +kernel⟩
theorem ok_yX5_readProduct : yOk yX5_readProduct 1 := ⟨by decide +kernel, by decide +kernel, by decide +kernel⟩
theorem ok_yX5_readSum : yOk yX5_readSum 1 := ⟨by decide +kernel, by decide +kernel, by decide +kernel⟩
theorem ok_yX5_readCompared : yOk yX5_readCompared 1 := ⟨by decide +kernel, by decide +kernel, by decide +kernel⟩
theorem ok_yX5_readBoth : yOk yX5_readBoth 1 := ⟨by decide +kernel, by decide +kernel, by decide +kernel⟩
theorem ok_yX5_readEither : yOk yX5_readEither 1 := ⟨by decide +kernel, by decide +kernel, by decide +kernel⟩
def fX5_readOpenedg (rc_readEither : Nat → St → Int32 → Option (Bool × St)) (rc_readOperand : Nat → St → Int32 → Option (Bool × St)) (n : Nat) (st : St) (a1 : Int32) (a2 : Int32) : Option (Bool × St) := bnd (sI st 21 2 ((gI st 21 2) + (1 : Int32))) (fun st1 => if a1 = (40 : Int32) then ((rc_readEither n st1 a2).bind (fun r12 => if bI r12.1 = 0 then (some (false, r12.2)) else (if gI r12.2 21 1 ≤ gI r12.2 21 2 then (some (false, r12.2)) else (gd (inB (gI r12.2 21 2) 120) (if gI r12.2 22 (gI r12.2 21 2).toNatClampNeg = (41 : Int32) then (bnd (sI r12.2 21 2 ((gI r12.2 21 2) + (1 : Int32))) (fun st18 => some (true, st18))) else (some (false, r12.2))))))) else ((rc_readOperand n st1 a2).bind (fun r4 => if bI r4.1 = 0 then (some (false, r4.2)) else (if a1 = (33 : Int32) then ((fX5_add r4.2 (-17 : Int32)).bind (fun r10 => some (true, r10))) else ((fX5_add r4.2 (-18 : Int32)).bind (fun r8 => some (true, r8)))))))
set_option maxHeartbeats 4000000 in
theorem zX5_readOpenedg (l : Launch) (X : WX) {FB LB RF RL : Nat} (hRF : FB + 1 ≤ RF) (hRL : LB + 23 ≤ RL) {rc_readEither : Nat → St → Int32 → Option (Bool × St)} (hr_readEither : ∀ (n : Nat) (st : St) (a1 : Int32) (R : Bool × St), rc_readEither n st a1 = some R → CtI l yX5_readEither cX5_readEither 2 .boolean ({ frames := FB, cells := 0, slots := 0, locals := LB }) EC 65 X [.ref (xq X 21), .int a1] st (bI R.1) R.2) {rc_readOperand : Nat → St → Int32 → Option (Bool × St)} (hr_readOperand : ∀ (n : Nat) (st : St) (a1 : Int32) (R : Bool × St), rc_readOperand n st a1 = some R → CtI l yX5_readOperand cX5_readOperand 4 .boolean ({ frames := FB, cells := 0, slots := 0, locals := LB }) EC 65 X [.ref (xq X 21), .int a1] st (bI R.1) R.2) (n : Nat) (st : St) (a1 : Int32) (a2 : Int32) (R : Bool × St) (hf : fX5_readOpenedg rc_readEither rc_readOperand n st a1 a2 = some R) : CtI l yX5_readOpened cX5_readOpened 3 .boolean ({ frames := RF, cells := 0, slots := 0, locals := RL }) EC 65 X [.ref (xq X 21), .int a1, .int a2] st (bI R.1) R.2 := by
  refine ct_in (own := RX5) (by decide +kernel) rfl (Nat.le_of_ble_eq_true rfl) (fun p e s m below meth c C hr hw ls hl => ?_)
  obtain ⟨hx, hb, hml, hown, hts⟩ := id C.1
  have hl : lv_has ls 3 [(0, .ref (xq X 21)), (1, .int a1), (2, .int a2)] := hl
  unfold fX5_readOpenedg at hf
  refine lv_aload_n hx hb dX5_readOpened_0 rfl (lv_at hl 0 rfl) ?_
  refine lv_dup hx hb dX5_readOpened_1 rfl ?_
  refine w_get (T := TX5) C hw (by decide) 2 kf_X5_27 (EC_21 X _ _) rfl inA5 (by decide) rfl dX5_readOpened_2 ?_
  refine lv_iconst (v := 1) hx hb dX5_readOpened_5 (by decide) ?_
  refine lv_iadd hx hb dX5_readOpened_6 ?_
  obtain ⟨st1, es2⟩ : ∃ z : St, z = sI st 21 2 ((gI st 21 2) + (1 : Int32)) := ⟨_, rfl⟩
  replace hf := bnd_nm hf es2
  refine w_puti (T := TX5) C hw (by decide) 2 kf_X5_27 (EC_21 X _ _) rfl inA5 tyX5_ok nmX5 (by decide) rfl rfl (Nat.le_of_ble_eq_true rfl) rfl dX5_readOpened_7 (fun H locs hw => ?_)
  rw [← es2] at hw
  refine lv_iload_n hx hb dX5_readOpened_10 rfl (lv_at hl 1 rfl) ?_
  refine lv_bipush (v := 40) hx hb dX5_readOpened_11 (by decide) ?_
  refine lv_icmp_ne (tgt := 63) hx hb dX5_readOpened_13 (by decide) (fun c3 => ?_) (fun c3 => ?_)
  · replace hf := ite_f hf c3
    refine lv_aload_n hx hb dX5_readOpened_63 rfl (lv_at hl 0 rfl) ?_
    refine lv_iload_n hx hb dX5_readOpened_64 rfl (lv_at hl 2 rfl) ?_
    obtain ⟨r4, k5, hf⟩ := bd_some hf
    refine w_goI hw (w_runV (rest := []) C hw (hr_readOperand n st1 a2 r4 k5) (by decide) (EC_21 X _ _) rfl km_X5_58 ki_yX5_readOperand kv_X5_readOperand kz_X5 kc_X5_readOperand rfl ok_yX5_readOperand ⟨by dsimp only; omega, by dsimp only; omega⟩ rfl rfl rfl rfl hl.1 (Nat.le_of_ble_eq_true rfl) dX5_readOpened_65 ⟨Nat.zero_le _, Nat.zero_le _⟩) (fun H locs hw => ?_)
    refine lv_if_ne (tgt := 73) hx hb dX5_readOpened_68 (by decide) (fun c6 => ?_) (fun c6 => ?_)
    · replace hf := ite_f hf c6
      refine lv_aload_n hx hb dX5_readOpened_73 rfl (lv_at hl 0 rfl) ?_
      refine lv_iload_n hx hb dX5_readOpened_74 rfl (lv_at hl 1 rfl) ?_
      refine lv_bipush (v := 33) hx hb dX5_readOpened_75 (by decide) ?_
      refine lv_icmp_ne (tgt := 85) hx hb dX5_readOpened_77 (by decide) (fun c7 => ?_) (fun c7 => ?_)
      · replace hf := ite_f hf c7
        refine lv_bipush (v := -18) hx hb dX5_readOpened_85 (by decide) ?_
        obtain ⟨r8, k9, hf⟩ := bd_some hf
        refine w_goV hw (w_runV (rest := []) C hw (zX5_add _ _ r4.2 (-18 : Int32) r8 k9) (by decide) (EC_21 X _ _) rfl km_X5_38 ki_yX5_add kv_X5_add kz_X5 kc_X5_add rfl ok_yX5_add ⟨by dsimp only; omega, by dsimp only; omega⟩ rfl rfl rfl rfl hl.1 (Nat.le_of_ble_eq_true rfl) dX5_readOpened_87 ⟨Nat.zero_le _, Nat.zero_le _⟩) (fun H locs hw => ?_)
        refine lv_iconst (v := 1) hx hb dX5_readOpened_90 (by decide) ?_
        exact w_zret (b := true) C hw hr rfl (so2 hf).1 (so2 hf).2 dX5_readOpened_91
      · replace hf := ite_t hf c7
        refine lv_bipush (v := -17) hx hb dX5_readOpened_80 (by decide) ?_
        refine lv_goto (tgt := 87) hx hb dX5_readOpened_82 (by decide) ?_
        obtain ⟨r10, k11, hf⟩ := bd_some hf
        refine w_goV hw (w_runV (rest := []) C hw (zX5_add _ _ r4.2 (-17 : Int32) r10 k11) (by decide) (EC_21 X _ _) rfl km_X5_38 ki_yX5_add kv_X5_add kz_X5 kc_X5_add rfl ok_yX5_add ⟨by dsimp only; omega, by dsimp only; omega⟩ rfl rfl rfl rfl hl.1 (Nat.le_of_ble_eq_true rfl) dX5_readOpened_87 ⟨Nat.zero_le _, Nat.zero_le _⟩) (fun H locs hw => ?_)
        refine lv_iconst (v := 1) hx hb dX5_readOpened_90 (by decide) ?_
        exact w_zret (b := true) C hw hr rfl (so2 hf).1 (so2 hf).2 dX5_readOpened_91
    · replace hf := ite_t hf c6
      refine lv_iconst (v := 0) hx hb dX5_readOpened_71 (by decide) ?_
      exact w_zret (b := false) C hw hr rfl (so2 hf).1 (so2 hf).2 dX5_readOpened_72
  · replace hf := ite_t hf c3
    refine lv_aload_n hx hb dX5_readOpened_16 rfl (lv_at hl 0 rfl) ?_
    refine lv_iload_n hx hb dX5_readOpened_17 rfl (lv_at hl 2 rfl) ?_
    obtain ⟨r12, k13, hf⟩ := bd_some hf
    refine w_goI hw (w_runV (rest := []) C hw (hr_readEither n st1 a2 r12 k13) (by decide) (EC_21 X _ _) rfl km_X5_34 ki_yX5_readEither kv_X5_readEither kz_X5 kc_X5_readEither rfl ok_yX5_readEither ⟨by dsimp only; omega, by dsimp only; omega⟩ rfl rfl rfl rfl hl.1 (Nat.le_of_ble_eq_true rfl) dX5_readOpened_18 ⟨Nat.zero_le _, Nat.zero_le _⟩) (fun H locs hw => ?_)
    refine lv_if_eq (tgt := 49) hx hb dX5_readOpened_21 (by decide) (fun c14 => ?_) (fun c14 => ?_)
    · replace hf := ite_t hf c14
      refine lv_iconst (v := 0) hx hb dX5_readOpened_49 (by decide) ?_
      exact w_zret (b := false) C hw hr rfl (so2 hf).1 (so2 hf).2 dX5_readOpened_50
    · replace hf := ite_f hf c14
      refine lv_aload_n hx hb dX5_readOpened_24 rfl (lv_at hl 0 rfl) ?_
      refine w_get (T := TX5) C hw (by decide) 2 kf_X5_27 (EC_21 X _ _) rfl inA5 (by decide) rfl dX5_readOpened_25 ?_
      refine lv_aload_n hx hb dX5_readOpened_28 rfl (lv_at hl 0 rfl) ?_
      refine w_get (T := TX5) C hw (by decide) 1 kf_X5_16 (EC_21 X _ _) rfl inA5 (by decide) rfl dX5_readOpened_29 ?_
      refine lv_icmp_ge (tgt := 49) hx hb dX5_readOpened_32 (by decide) (fun c15 => ?_) (fun c15 => ?_)
      · replace hf := ite_t hf c15
        refine lv_iconst (v := 0) hx hb dX5_readOpened_49 (by decide) ?_
        exact w_zret (b := false) C hw hr rfl (so2 hf).1 (so2 hf).2 dX5_readOpened_50
      · replace hf := ite_f hf c15
        refine lv_aload_n hx hb dX5_readOpened_35 rfl (lv_at hl 0 rfl) ?_
        refine w_get (T := TX5) C hw (by decide) 0 kf_X5_9 (EC_21 X _ _) rfl inA5 (by decide) rfl dX5_readOpened_36 ?_
        refine lv_aload_n hx hb dX5_readOpened_39 rfl (lv_at hl 0 rfl) ?_
        refine w_get (T := TX5) C hw (by decide) 2 kf_X5_27 (EC_21 X _ _) rfl inA5 (by decide) rfl dX5_readOpened_40 ?_
        obtain ⟨h16, hf⟩ := gd_some hf
        refine w_iald C hw (by decide) (EC_22 X _ _) h16 rfl dX5_readOpened_43 ?_
        refine lv_bipush (v := 41) hx hb dX5_readOpened_44 (by decide) ?_
        refine lv_icmp_eq (tgt := 51) hx hb dX5_readOpened_46 (by decide) (fun c17 => ?_) (fun c17 => ?_)
        · replace hf := ite_t hf c17
          refine lv_aload_n hx hb dX5_readOpened_51 rfl (lv_at hl 0 rfl) ?_
          refine lv_dup hx hb dX5_readOpened_52 rfl ?_
          refine w_get (T := TX5) C hw (by decide) 2 kf_X5_27 (EC_21 X _ _) rfl inA5 (by decide) rfl dX5_readOpened_53 ?_
          refine lv_iconst (v := 1) hx hb dX5_readOpened_56 (by decide) ?_
          refine lv_iadd hx hb dX5_readOpened_57 ?_
          obtain ⟨st18, es19⟩ : ∃ z : St, z = sI r12.2 21 2 ((gI r12.2 21 2) + (1 : Int32)) := ⟨_, rfl⟩
          replace hf := bnd_nm hf es19
          refine w_puti (T := TX5) C hw (by decide) 2 kf_X5_27 (EC_21 X _ _) rfl inA5 tyX5_ok nmX5 (by decide) rfl rfl (Nat.le_of_ble_eq_true rfl) rfl dX5_readOpened_58 (fun H locs hw => ?_)
          rw [← es19] at hw
          refine lv_iconst (v := 1) hx hb dX5_readOpened_61 (by decide) ?_
          exact w_zret (b := true) C hw hr rfl (so2 hf).1 (so2 hf).2 dX5_readOpened_62
        · replace hf := ite_f hf c17
          refine lv_iconst (v := 0) hx hb dX5_readOpened_49 (by decide) ?_
          exact w_zret (b := false) C hw hr rfl (so2 hf).1 (so2 hf).2 dX5_readOpened_50
def fX5_readOperandg_59 (rc_readEither : Nat → St → Int32 → Option (Bool × St)) (rc_readOperand : Nat → St → Int32 → Option (Bool × St)) (n : Nat) (st : St) (v1 : Int32) (v2 : Int32) : Option (Bool × St) := if (6 : Int32) ≤ v1 then (some (false, st)) else ((fX5_readOpenedg rc_readEither rc_readOperand n st v2 (v1 + (1 : Int32))).bind (fun r20 => if bI r20.1 = 0 then (some (false, r20.2)) else (some (true, r20.2))))
set_option maxHeartbeats 4000000 in
theorem tX5_readOperandg_59 {p : Program} {l : Launch} {e : Env} {s : State} {m : MethodId} {args : Array Value} {below : List Frame} {meth : Method} {c : Code} {X : WX} (C : Amb 65 X p s m args meth c cX5_readOperand 4 RX5) (hr : meth.sig.returnType = some .boolean) {R : Bool × St} {n : Nat} {FB LB RF RL : Nat} (hRF : FB + 2 ≤ RF) (hRL : LB + 45 ≤ RL) {rc_readEither : Nat → St → Int32 → Option (Bool × St)} (hr_readEither : ∀ (n : Nat) (st : St) (a1 : Int32) (R : Bool × St), rc_readEither n st a1 = some R → CtI l yX5_readEither cX5_readEither 2 .boolean ({ frames := FB, cells := 0, slots := 0, locals := LB }) EC 65 X [.ref (xq X 21), .int a1] st (bI R.1) R.2) {rc_readOperand : Nat → St → Int32 → Option (Bool × St)} (hr_readOperand : ∀ (n : Nat) (st : St) (a1 : Int32) (R : Bool × St), rc_readOperand n st a1 = some R → CtI l yX5_readOperand cX5_readOperand 4 .boolean ({ frames := FB, cells := 0, slots := 0, locals := LB }) EC 65 X [.ref (xq X 21), .int a1] st (bI R.1) R.2) : ∀ (st : St) (v1 : Int32) (v2 : Int32) (H : Heap) (locs : List Loc) (ls : Array Slot), Wd EC 65 X s.heap st H locs → lv_has ls 4 [(0, .ref (xq X 21)), (1, .int v1), (2, .int v2)] → fX5_readOperandg_59 rc_readEither rc_readOperand n st v1 v2 = some R → W p l e { frames := RF, cells := 0, slots := 0, locals := RL } s m args below meth c H locs 0 0 (QI EC 65 X (bI R.1) R.2 below args s) (F0 m 59 ls []) := by
  obtain ⟨hx, hb, hml, hown, hts⟩ := id C.1
  intro st v1 v2 H locs ls  hw hl hf
  unfold fX5_readOperandg_59 at hf
  refine lv_iload_n hx hb dX5_readOperand_59 rfl (lv_at hl 1 rfl) ?_
  refine lv_bipush (v := 6) hx hb dX5_readOperand_60 (by decide) ?_
  refine lv_icmp_ge (tgt := 80) hx hb dX5_readOperand_62 (by decide) (fun c19 => ?_) (fun c19 => ?_)
  · replace hf := ite_t hf c19
    refine lv_iconst (v := 0) hx hb dX5_readOperand_80 (by decide) ?_
    exact w_zret (b := false) C hw hr rfl (so2 hf).1 (so2 hf).2 dX5_readOperand_81
  · replace hf := ite_f hf c19
    refine lv_aload_n hx hb dX5_readOperand_65 rfl (lv_at hl 0 rfl) ?_
    refine lv_iload_n hx hb dX5_readOperand_66 rfl (lv_at hl 2 rfl) ?_
    refine lv_iload_n hx hb dX5_readOperand_67 rfl (lv_at hl 1 rfl) ?_
    refine lv_iconst (v := 1) hx hb dX5_readOperand_68 (by decide) ?_
    refine lv_iadd hx hb dX5_readOperand_69 ?_
    obtain ⟨r20, k21, hf⟩ := bd_some hf
    refine w_goI hw (w_runV (rest := []) C hw (zX5_readOpenedg _ _ (Nat.le_refl _) (Nat.le_refl _) hr_readEither hr_readOperand n st v2 (v1 + (1 : Int32)) r20 k21) (by decide) (EC_21 X _ _) rfl km_X5_64 ki_yX5_readOpened kv_X5_readOpened kz_X5 kc_X5_readOpened rfl ok_yX5_readOpened ⟨by dsimp only; omega, by dsimp only; omega⟩ rfl rfl rfl rfl hl.1 (Nat.le_of_ble_eq_true rfl) dX5_readOperand_70 ⟨Nat.zero_le _, Nat.zero_le _⟩) (fun H locs hw => ?_)
    refine lv_if_eq (tgt := 80) hx hb dX5_readOperand_73 (by decide) (fun c22 => ?_) (fun c22 => ?_)
    · replace hf := ite_t hf c22
      refine lv_iconst (v := 0) hx hb dX5_readOperand_80 (by decide) ?_
      exact w_zret (b := false) C hw hr rfl (so2 hf).1 (so2 hf).2 dX5_readOperand_81
    · replace hf := ite_f hf c22
      refine lv_iconst (v := 1) hx hb dX5_readOperand_76 (by decide) ?_
      refine lv_goto (tgt := 81) hx hb dX5_readOperand_77 (by decide) ?_
      exact w_zret (b := true) C hw hr rfl (so2 hf).1 (so2 hf).2 dX5_readOperand_81
def fX5_readOperandg_41 (rc_readEither : Nat → St → Int32 → Option (Bool × St)) (rc_readOperand : Nat → St → Int32 → Option (Bool × St)) (n : Nat) (st : St) (v1 : Int32) (v2 : Int32) : Option (Bool × St) := if v2 = (40 : Int32) then (fX5_readOperandg_59 rc_readEither rc_readOperand n st v1 v2) else (if v2 = (33 : Int32) then (fX5_readOperandg_59 rc_readEither rc_readOperand n st v1 v2) else (if v2 = (45 : Int32) then (fX5_readOperandg_59 rc_readEither rc_readOperand n st v1 v2) else (bnd ((fX5_nameOf v2)) (fun x12 => if x12 = 0 then (some (false, st)) else (bnd (sI st 21 2 ((gI st 21 2) + (1 : Int32))) (fun st15 => (fX5_add st15 x12).bind (fun r17 => some (true, r17))))))))
set_option maxHeartbeats 4000000 in
theorem tX5_readOperandg_41 {p : Program} {l : Launch} {e : Env} {s : State} {m : MethodId} {args : Array Value} {below : List Frame} {meth : Method} {c : Code} {X : WX} (C : Amb 65 X p s m args meth c cX5_readOperand 4 RX5) (hr : meth.sig.returnType = some .boolean) {R : Bool × St} {n : Nat} {FB LB RF RL : Nat} (hRF : FB + 2 ≤ RF) (hRL : LB + 45 ≤ RL) {rc_readEither : Nat → St → Int32 → Option (Bool × St)} (hr_readEither : ∀ (n : Nat) (st : St) (a1 : Int32) (R : Bool × St), rc_readEither n st a1 = some R → CtI l yX5_readEither cX5_readEither 2 .boolean ({ frames := FB, cells := 0, slots := 0, locals := LB }) EC 65 X [.ref (xq X 21), .int a1] st (bI R.1) R.2) {rc_readOperand : Nat → St → Int32 → Option (Bool × St)} (hr_readOperand : ∀ (n : Nat) (st : St) (a1 : Int32) (R : Bool × St), rc_readOperand n st a1 = some R → CtI l yX5_readOperand cX5_readOperand 4 .boolean ({ frames := FB, cells := 0, slots := 0, locals := LB }) EC 65 X [.ref (xq X 21), .int a1] st (bI R.1) R.2) : ∀ (st : St) (v1 : Int32) (v2 : Int32) (H : Heap) (locs : List Loc) (ls : Array Slot), Wd EC 65 X s.heap st H locs → lv_has ls 4 [(0, .ref (xq X 21)), (1, .int v1), (2, .int v2)] → fX5_readOperandg_41 rc_readEither rc_readOperand n st v1 v2 = some R → W p l e { frames := RF, cells := 0, slots := 0, locals := RL } s m args below meth c H locs 0 0 (QI EC 65 X (bI R.1) R.2 below args s) (F0 m 41 ls []) := by
  obtain ⟨hx, hb, hml, hown, hts⟩ := id C.1
  intro st v1 v2 H locs ls  hw hl hf
  unfold fX5_readOperandg_41 at hf
  refine lv_iload_n hx hb dX5_readOperand_41 rfl (lv_at hl 2 rfl) ?_
  refine lv_bipush (v := 40) hx hb dX5_readOperand_42 (by decide) ?_
  refine lv_icmp_eq (tgt := 59) hx hb dX5_readOperand_44 (by decide) (fun c9 => ?_) (fun c9 => ?_)
  · replace hf := ite_t hf c9
    exact tX5_readOperandg_59 C hr hRF hRL hr_readEither hr_readOperand st v1 v2 _ _ _ hw (lv_sub hl [0, 1, 2] rfl) hf
  · replace hf := ite_f hf c9
    refine lv_iload_n hx hb dX5_readOperand_47 rfl (lv_at hl 2 rfl) ?_
    refine lv_bipush (v := 33) hx hb dX5_readOperand_48 (by decide) ?_
    refine lv_icmp_eq (tgt := 59) hx hb dX5_readOperand_50 (by decide) (fun c10 => ?_) (fun c10 => ?_)
    · replace hf := ite_t hf c10
      exact tX5_readOperandg_59 C hr hRF hRL hr_readEither hr_readOperand st v1 v2 _ _ _ hw (lv_sub hl [0, 1, 2] rfl) hf
    · replace hf := ite_f hf c10
      refine lv_iload_n hx hb dX5_readOperand_53 rfl (lv_at hl 2 rfl) ?_
      refine lv_bipush (v := 45) hx hb dX5_readOperand_54 (by decide) ?_
      refine lv_icmp_ne (tgt := 82) hx hb dX5_readOperand_56 (by decide) (fun c11 => ?_) (fun c11 => ?_)
      · replace hf := ite_f hf c11
        refine lv_iload_n hx hb dX5_readOperand_82 rfl (lv_at hl 2 rfl) ?_
        refine w_goI hw (w_runS (rest := []) C hw (zX5_nameOf _ _ st v2) km_X5_68 kt_yX5_nameOf kz_X5 kc_X5_nameOf ok_yX5_nameOf ⟨by dsimp only; omega, by dsimp only; omega⟩ rfl rfl rfl rfl hl.1 (Nat.le_of_ble_eq_true rfl) dX5_readOperand_83 ⟨Nat.zero_le _, Nat.zero_le _⟩) (fun H locs hw => ?_)
        refine lv_topi (fun x12 e13 => ?_)
        replace hf := bnd_nm hf e13
        refine lv_istore_n (lv' := [(3, .int x12), (0, .ref (xq X 21)), (1, .int v1), (2, .int v2)]) hx hb dX5_readOperand_86 rfl hl (by decide) rfl (fun ls hl => ?_)
        refine lv_iload_n hx hb dX5_readOperand_87 rfl (lv_at hl 0 rfl) ?_
        refine lv_if_ne (tgt := 93) hx hb dX5_readOperand_88 (by decide) (fun c14 => ?_) (fun c14 => ?_)
        · replace hf := ite_f hf c14
          refine lv_aload_n hx hb dX5_readOperand_93 rfl (lv_at hl 1 rfl) ?_
          refine lv_dup hx hb dX5_readOperand_94 rfl ?_
          refine w_get (T := TX5) C hw (by decide) 2 kf_X5_27 (EC_21 X _ _) rfl inA5 (by decide) rfl dX5_readOperand_95 ?_
          refine lv_iconst (v := 1) hx hb dX5_readOperand_98 (by decide) ?_
          refine lv_iadd hx hb dX5_readOperand_99 ?_
          obtain ⟨st15, es16⟩ : ∃ z : St, z = sI st 21 2 ((gI st 21 2) + (1 : Int32)) := ⟨_, rfl⟩
          replace hf := bnd_nm hf es16
          refine w_puti (T := TX5) C hw (by decide) 2 kf_X5_27 (EC_21 X _ _) rfl inA5 tyX5_ok nmX5 (by decide) rfl rfl (Nat.le_of_ble_eq_true rfl) rfl dX5_readOperand_100 (fun H locs hw => ?_)
          rw [← es16] at hw
          refine lv_aload_n hx hb dX5_readOperand_103 rfl (lv_at hl 1 rfl) ?_
          refine lv_iload_n hx hb dX5_readOperand_104 rfl (lv_at hl 0 rfl) ?_
          obtain ⟨r17, k18, hf⟩ := bd_some hf
          refine w_goV hw (w_runV (rest := []) C hw (zX5_add _ _ st15 x12 r17 k18) (by decide) (EC_21 X _ _) rfl km_X5_38 ki_yX5_add kv_X5_add kz_X5 kc_X5_add rfl ok_yX5_add ⟨by dsimp only; omega, by dsimp only; omega⟩ rfl rfl rfl rfl hl.1 (Nat.le_of_ble_eq_true rfl) dX5_readOperand_105 ⟨Nat.zero_le _, Nat.zero_le _⟩) (fun H locs hw => ?_)
          refine lv_iconst (v := 1) hx hb dX5_readOperand_108 (by decide) ?_
          exact w_zret (b := true) C hw hr rfl (so2 hf).1 (so2 hf).2 dX5_readOperand_109
        · replace hf := ite_t hf c14
          refine lv_iconst (v := 0) hx hb dX5_readOperand_91 (by decide) ?_
          exact w_zret (b := false) C hw hr rfl (so2 hf).1 (so2 hf).2 dX5_readOperand_92
      · replace hf := ite_t hf c11
        exact tX5_readOperandg_59 C hr hRF hRL hr_readEither hr_readOperand st v1 v2 _ _ _ hw (lv_sub hl [0, 1, 2] rfl) hf
def fX5_readOperandg (rc_readEither : Nat → St → Int32 → Option (Bool × St)) (rc_readOperand : Nat → St → Int32 → Option (Bool × St)) (n : Nat) (st : St) (a1 : Int32) : Option (Bool × St) := if gI st 21 2 < gI st 21 1 then (gd (inB (gI st 21 2) 120) (bnd (gI st 22 (gI st 21 2).toNatClampNeg) (fun x3 => if x3 < (48 : Int32) then (fX5_readOperandg_41 rc_readEither rc_readOperand n st a1 x3) else (if (57 : Int32) < x3 then (fX5_readOperandg_41 rc_readEither rc_readOperand n st a1 x3) else ((fX5_readNumber n st).bind (fun r7 => some (true, r7))))))) else (some (false, st))
set_option maxHeartbeats 4000000 in
theorem zX5_readOperandg (l : Launch) (X : WX) {FB LB RF RL : Nat} (hRF : FB + 2 ≤ RF) (hRL : LB + 45 ≤ RL) {rc_readEither : Nat → St → Int32 → Option (Bool × St)} (hr_readEither : ∀ (n : Nat) (st : St) (a1 : Int32) (R : Bool × St), rc_readEither n st a1 = some R → CtI l yX5_readEither cX5_readEither 2 .boolean ({ frames := FB, cells := 0, slots := 0, locals := LB }) EC 65 X [.ref (xq X 21), .int a1] st (bI R.1) R.2) {rc_readOperand : Nat → St → Int32 → Option (Bool × St)} (hr_readOperand : ∀ (n : Nat) (st : St) (a1 : Int32) (R : Bool × St), rc_readOperand n st a1 = some R → CtI l yX5_readOperand cX5_readOperand 4 .boolean ({ frames := FB, cells := 0, slots := 0, locals := LB }) EC 65 X [.ref (xq X 21), .int a1] st (bI R.1) R.2) (n : Nat) (st : St) (a1 : Int32) (R : Bool × St) (hf : fX5_readOperandg rc_readEither rc_readOperand n st a1 = some R) : CtI l yX5_readOperand cX5_readOperand 4 .boolean ({ frames := RF, cells := 0, slots := 0, locals := RL }) EC 65 X [.ref (xq X 21), .int a1] st (bI R.1) R.2 := by
  refine ct_in (own := RX5) (by decide +kernel) rfl (Nat.le_of_ble_eq_true rfl) (fun p e s m below meth c C hr hw ls hl => ?_)
  obtain ⟨hx, hb, hml, hown, hts⟩ := id C.1
  have hl : lv_has ls 4 [(0, .ref (xq X 21)), (1, .int a1)] := hl
  unfold fX5_readOperandg at hf
  refine lv_aload_n hx hb dX5_readOperand_0 rfl (lv_at hl 0 rfl) ?_
  refine w_get (T := TX5) C hw (by decide) 2 kf_X5_27 (EC_21 X _ _) rfl inA5 (by decide) rfl dX5_readOperand_1 ?_
  refine lv_aload_n hx hb dX5_readOperand_4 rfl (lv_at hl 0 rfl) ?_
  refine w_get (T := TX5) C hw (by decide) 1 kf_X5_16 (EC_21 X _ _) rfl inA5 (by decide) rfl dX5_readOperand_5 ?_
  refine lv_icmp_lt (tgt := 13) hx hb dX5_readOperand_8 (by decide) (fun c1 => ?_) (fun c1 => ?_)
  · replace hf := ite_t hf c1
    refine lv_aload_n hx hb dX5_readOperand_13 rfl (lv_at hl 0 rfl) ?_
    refine w_get (T := TX5) C hw (by decide) 0 kf_X5_9 (EC_21 X _ _) rfl inA5 (by decide) rfl dX5_readOperand_14 ?_
    refine lv_aload_n hx hb dX5_readOperand_17 rfl (lv_at hl 0 rfl) ?_
    refine w_get (T := TX5) C hw (by decide) 2 kf_X5_27 (EC_21 X _ _) rfl inA5 (by decide) rfl dX5_readOperand_18 ?_
    obtain ⟨h2, hf⟩ := gd_some hf
    refine w_iald C hw (by decide) (EC_22 X _ _) h2 rfl dX5_readOperand_21 ?_
    refine lv_topi (fun x3 e4 => ?_)
    replace hf := bnd_nm hf e4
    refine lv_istore_n (lv' := [(2, .int x3), (0, .ref (xq X 21)), (1, .int a1)]) hx hb dX5_readOperand_22 rfl hl (by decide) rfl (fun ls hl => ?_)
    refine lv_iload_n hx hb dX5_readOperand_23 rfl (lv_at hl 0 rfl) ?_
    refine lv_bipush (v := 48) hx hb dX5_readOperand_24 (by decide) ?_
    refine lv_icmp_lt (tgt := 41) hx hb dX5_readOperand_26 (by decide) (fun c5 => ?_) (fun c5 => ?_)
    · replace hf := ite_t hf c5
      exact tX5_readOperandg_41 C hr hRF hRL hr_readEither hr_readOperand st a1 x3 _ _ _ hw (lv_sub hl [1, 2, 0] rfl) hf
    · replace hf := ite_f hf c5
      refine lv_iload_n hx hb dX5_readOperand_29 rfl (lv_at hl 0 rfl) ?_
      refine lv_bipush (v := 57) hx hb dX5_readOperand_30 (by decide) ?_
      refine lv_icmp_gt (tgt := 41) hx hb dX5_readOperand_32 (by decide) (fun c6 => ?_) (fun c6 => ?_)
      · replace hf := ite_t hf c6
        exact tX5_readOperandg_41 C hr hRF hRL hr_readEither hr_readOperand st a1 x3 _ _ _ hw (lv_sub hl [1, 2, 0] rfl) hf
      · replace hf := ite_f hf c6
        refine lv_aload_n hx hb dX5_readOperand_35 rfl (lv_at hl 1 rfl) ?_
        obtain ⟨r7, k8, hf⟩ := bd_some hf
        refine w_goV hw (w_runV (rest := []) C hw (zX5_readNumber _ _ n st r7 k8) (by decide) (EC_21 X _ _) rfl km_X5_61 ki_yX5_readNumber kv_X5_readNumber kz_X5 kc_X5_readNumber rfl ok_yX5_readNumber ⟨by dsimp only; omega, by dsimp only; omega⟩ rfl rfl rfl rfl hl.1 (Nat.le_of_ble_eq_true rfl) dX5_readOperand_36 ⟨Nat.zero_le _, Nat.zero_le _⟩) (fun H locs hw => ?_)
        refine lv_iconst (v := 1) hx hb dX5_readOperand_39 (by decide) ?_
        exact w_zret (b := true) C hw hr rfl (so2 hf).1 (so2 hf).2 dX5_readOperand_40
  · replace hf := ite_f hf c1
    refine lv_iconst (v := 0) hx hb dX5_readOperand_11 (by decide) ?_
    exact w_zret (b := false) C hw hr rfl (so2 hf).1 (so2 hf).2 dX5_readOperand_12
def fX5_readProductg_63 (kB10 : St → Int32 → Option (Bool × St)) (rc_readEither : Nat → St → Int32 → Option (Bool × St)) (rc_readOperand : Nat → St → Int32 → Option (Bool × St)) (n : Nat) (st : St) (v1 : Int32) : Option (Bool × St) := (fX5_signHere st (42 : Int32) (-14 : Int32) (47 : Int32) (-15 : Int32) (37 : Int32) (-16 : Int32)).bind (fun r11 => bnd (sI st 21 2 ((gI st 21 2) + (1 : Int32))) (fun st13 => (fX5_readOperandg rc_readEither rc_readOperand n st13 v1).bind (fun r15 => if bI r15.1 = 0 then (some (false, r15.2)) else ((fX5_add r15.2 r11).bind (fun r18 => kB10 r18 v1)))))
set_option maxHeartbeats 4000000 in
theorem tX5_readProductg_63 {p : Program} {l : Launch} {e : Env} {s : State} {m : MethodId} {args : Array Value} {below : List Frame} {meth : Method} {c : Code} {X : WX} (C : Amb 65 X p s m args meth c cX5_readProduct 3 RX5) (hr : meth.sig.returnType = some .boolean) {R : Bool × St} {n : Nat} {FB LB RF RL : Nat} (hRF : FB + 3 ≤ RF) (hRL : LB + 68 ≤ RL) {rc_readEither : Nat → St → Int32 → Option (Bool × St)} (hr_readEither : ∀ (n : Nat) (st : St) (a1 : Int32) (R : Bool × St), rc_readEither n st a1 = some R → CtI l yX5_readEither cX5_readEither 2 .boolean ({ frames := FB, cells := 0, slots := 0, locals := LB }) EC 65 X [.ref (xq X 21), .int a1] st (bI R.1) R.2) {rc_readOperand : Nat → St → Int32 → Option (Bool × St)} (hr_readOperand : ∀ (n : Nat) (st : St) (a1 : Int32) (R : Bool × St), rc_readOperand n st a1 = some R → CtI l yX5_readOperand cX5_readOperand 4 .boolean ({ frames := FB, cells := 0, slots := 0, locals := LB }) EC 65 X [.ref (xq X 21), .int a1] st (bI R.1) R.2) {kB10 : St → Int32 → Option (Bool × St)} (hB10 : ∀ (st : St) (v1 : Int32) (H : Heap) (locs : List Loc) (ls : Array Slot), Wd EC 65 X s.heap st H locs → lv_has ls 3 [(0, .ref (xq X 21)), (1, .int v1)] → kB10 st v1 = some R → W p l e { frames := RF, cells := 0, slots := 0, locals := RL } s m args below meth c H locs 0 0 (QI EC 65 X (bI R.1) R.2 below args s) (F0 m 10 ls [])) : ∀ (st : St) (v1 : Int32) (H : Heap) (locs : List Loc) (ls : Array Slot), Wd EC 65 X s.heap st H locs → lv_has ls 3 [(0, .ref (xq X 21)), (1, .int v1)] → fX5_readProductg_63 kB10 rc_readEither rc_readOperand n st v1 = some R → W p l e { frames := RF, cells := 0, slots := 0, locals := RL } s m args below meth c H locs 0 0 (QI EC 65 X (bI R.1) R.2 below args s) (F0 m 63 ls []) := by
  obtain ⟨hx, hb, hml, hown, hts⟩ := id C.1
  intro st v1 H locs ls  hw hl hf
  unfold fX5_readProductg_63 at hf
  refine lv_aload_n hx hb dX5_readProduct_63 rfl (lv_at hl 0 rfl) ?_
  refine lv_bipush (v := 42) hx hb dX5_readProduct_64 (by decide) ?_
  refine lv_bipush (v := -14) hx hb dX5_readProduct_66 (by decide) ?_
  refine lv_bipush (v := 47) hx hb dX5_readProduct_68 (by decide) ?_
  refine lv_bipush (v := -15) hx hb dX5_readProduct_70 (by decide) ?_
  refine lv_bipush (v := 37) hx hb dX5_readProduct_72 (by decide) ?_
  refine lv_bipush (v := -16) hx hb dX5_readProduct_74 (by decide) ?_
  obtain ⟨r11, k12, hf⟩ := bd_some hf
  refine w_goI hw (w_runV (rest := []) C hw (zX5_signHere _ _ st (42 : Int32) (-14 : Int32) (47 : Int32) (-15 : Int32) (37 : Int32) (-16 : Int32) r11 k12) (by decide) (EC_21 X _ _) rfl km_X5_51 ki_yX5_signHere kv_X5_signHere kz_X5 kc_X5_signHere rfl ok_yX5_signHere ⟨by dsimp only; omega, by dsimp only; omega⟩ rfl rfl rfl rfl hl.1 (Nat.le_of_ble_eq_true rfl) dX5_readProduct_76 ⟨Nat.zero_le _, Nat.zero_le _⟩) (fun H locs hw => ?_)
  refine lv_istore_n (lv' := [(2, .int r11), (0, .ref (xq X 21)), (1, .int v1)]) hx hb dX5_readProduct_79 rfl hl (by decide) rfl (fun ls hl => ?_)
  refine lv_aload_n hx hb dX5_readProduct_80 rfl (lv_at hl 1 rfl) ?_
  refine lv_dup hx hb dX5_readProduct_81 rfl ?_
  refine w_get (T := TX5) C hw (by decide) 2 kf_X5_27 (EC_21 X _ _) rfl inA5 (by decide) rfl dX5_readProduct_82 ?_
  refine lv_iconst (v := 1) hx hb dX5_readProduct_85 (by decide) ?_
  refine lv_iadd hx hb dX5_readProduct_86 ?_
  obtain ⟨st13, es14⟩ : ∃ z : St, z = sI st 21 2 ((gI st 21 2) + (1 : Int32)) := ⟨_, rfl⟩
  replace hf := bnd_nm hf es14
  refine w_puti (T := TX5) C hw (by decide) 2 kf_X5_27 (EC_21 X _ _) rfl inA5 tyX5_ok nmX5 (by decide) rfl rfl (Nat.le_of_ble_eq_true rfl) rfl dX5_readProduct_87 (fun H locs hw => ?_)
  rw [← es14] at hw
  refine lv_aload_n hx hb dX5_readProduct_90 rfl (lv_at hl 1 rfl) ?_
  refine lv_iload_n hx hb dX5_readProduct_91 rfl (lv_at hl 2 rfl) ?_
  obtain ⟨r15, k16, hf⟩ := bd_some hf
  refine w_goI hw (w_runV (rest := []) C hw (zX5_readOperandg _ _ (Nat.le_refl _) (Nat.le_refl _) hr_readEither hr_readOperand n st13 v1 r15 k16) (by decide) (EC_21 X _ _) rfl km_X5_58 ki_yX5_readOperand kv_X5_readOperand kz_X5 kc_X5_readOperand rfl ok_yX5_readOperand ⟨by dsimp only; omega, by dsimp only; omega⟩ rfl rfl rfl rfl hl.1 (Nat.le_of_ble_eq_true rfl) dX5_readProduct_92 ⟨Nat.zero_le _, Nat.zero_le _⟩) (fun H locs hw => ?_)
  refine lv_if_ne (tgt := 100) hx hb dX5_readProduct_95 (by decide) (fun c17 => ?_) (fun c17 => ?_)
  · replace hf := ite_f hf c17
    refine lv_aload_n hx hb dX5_readProduct_100 rfl (lv_at hl 1 rfl) ?_
    refine lv_iload_n hx hb dX5_readProduct_101 rfl (lv_at hl 0 rfl) ?_
    obtain ⟨r18, k19, hf⟩ := bd_some hf
    refine w_goV hw (w_runV (rest := []) C hw (zX5_add _ _ r15.2 r11 r18 k19) (by decide) (EC_21 X _ _) rfl km_X5_38 ki_yX5_add kv_X5_add kz_X5 kc_X5_add rfl ok_yX5_add ⟨by dsimp only; omega, by dsimp only; omega⟩ rfl rfl rfl rfl hl.1 (Nat.le_of_ble_eq_true rfl) dX5_readProduct_102 ⟨Nat.zero_le _, Nat.zero_le _⟩) (fun H locs hw => ?_)
    refine lv_goto (tgt := 10) hx hb dX5_readProduct_105 (by decide) ?_
    exact hB10 r18 v1 _ _ _ hw (lv_sub hl [1, 2] rfl) hf
  · replace hf := ite_t hf c17
    refine lv_iconst (v := 0) hx hb dX5_readProduct_98 (by decide) ?_
    exact w_zret (b := false) C hw hr rfl (so2 hf).1 (so2 hf).2 dX5_readProduct_99
def fX5_readProductg_10 (rc_readEither : Nat → St → Int32 → Option (Bool × St)) (rc_readOperand : Nat → St → Int32 → Option (Bool × St)) (n : Nat) : Nat → St → Int32 → Option (Bool × St)
  | 0, _, _ => none
  | k + 1, st, v1 => if gI st 21 1 ≤ gI st 21 2 then (some (true, st)) else (gd (inB (gI st 21 2) 120) (if gI st 22 (gI st 21 2).toNatClampNeg = (42 : Int32) then (fX5_readProductg_63 (fX5_readProductg_10 rc_readEither rc_readOperand n k) rc_readEither rc_readOperand n st v1) else (gd (inB (gI st 21 2) 120) (if gI st 22 (gI st 21 2).toNatClampNeg = (47 : Int32) then (fX5_readProductg_63 (fX5_readProductg_10 rc_readEither rc_readOperand n k) rc_readEither rc_readOperand n st v1) else (gd (inB (gI st 21 2) 120) (if gI st 22 (gI st 21 2).toNatClampNeg = (37 : Int32) then (fX5_readProductg_63 (fX5_readProductg_10 rc_readEither rc_readOperand n k) rc_readEither rc_readOperand n st v1) else (some (true, st))))))))
set_option maxHeartbeats 4000000 in
theorem tX5_readProductg_10 {p : Program} {l : Launch} {e : Env} {s : State} {m : MethodId} {args : Array Value} {below : List Frame} {meth : Method} {c : Code} {X : WX} (C : Amb 65 X p s m args meth c cX5_readProduct 3 RX5) (hr : meth.sig.returnType = some .boolean) {R : Bool × St} {n : Nat} {FB LB RF RL : Nat} (hRF : FB + 3 ≤ RF) (hRL : LB + 68 ≤ RL) {rc_readEither : Nat → St → Int32 → Option (Bool × St)} (hr_readEither : ∀ (n : Nat) (st : St) (a1 : Int32) (R : Bool × St), rc_readEither n st a1 = some R → CtI l yX5_readEither cX5_readEither 2 .boolean ({ frames := FB, cells := 0, slots := 0, locals := LB }) EC 65 X [.ref (xq X 21), .int a1] st (bI R.1) R.2) {rc_readOperand : Nat → St → Int32 → Option (Bool × St)} (hr_readOperand : ∀ (n : Nat) (st : St) (a1 : Int32) (R : Bool × St), rc_readOperand n st a1 = some R → CtI l yX5_readOperand cX5_readOperand 4 .boolean ({ frames := FB, cells := 0, slots := 0, locals := LB }) EC 65 X [.ref (xq X 21), .int a1] st (bI R.1) R.2) : ∀ (k : Nat) (st : St) (v1 : Int32) (H : Heap) (locs : List Loc) (ls : Array Slot), Wd EC 65 X s.heap st H locs → lv_has ls 3 [(0, .ref (xq X 21)), (1, .int v1)] → fX5_readProductg_10 rc_readEither rc_readOperand n k st v1 = some R → W p l e { frames := RF, cells := 0, slots := 0, locals := RL } s m args below meth c H locs 0 0 (QI EC 65 X (bI R.1) R.2 below args s) (F0 m 10 ls []) := by
  obtain ⟨hx, hb, hml, hown, hts⟩ := id C.1
  intro k
  induction k with
  | zero => intro st v1 H locs ls  hw hl hf; exact absurd (show none = some R from hf) (fun z => by cases z)
  | succ k ih =>
    intro st v1 H locs ls  hw hl hf
    rw [fX5_readProductg_10] at hf
    refine lv_aload_n hx hb dX5_readProduct_10 rfl (lv_at hl 0 rfl) ?_
    refine w_get (T := TX5) C hw (by decide) 2 kf_X5_27 (EC_21 X _ _) rfl inA5 (by decide) rfl dX5_readProduct_11 ?_
    refine lv_aload_n hx hb dX5_readProduct_14 rfl (lv_at hl 0 rfl) ?_
    refine w_get (T := TX5) C hw (by decide) 1 kf_X5_16 (EC_21 X _ _) rfl inA5 (by decide) rfl dX5_readProduct_15 ?_
    refine lv_icmp_ge (tgt := 108) hx hb dX5_readProduct_18 (by decide) (fun c4 => ?_) (fun c4 => ?_)
    · replace hf := ite_t hf c4
      refine lv_iconst (v := 1) hx hb dX5_readProduct_108 (by decide) ?_
      exact w_zret (b := true) C hw hr rfl (so2 hf).1 (so2 hf).2 dX5_readProduct_109
    · replace hf := ite_f hf c4
      refine lv_aload_n hx hb dX5_readProduct_21 rfl (lv_at hl 0 rfl) ?_
      refine w_get (T := TX5) C hw (by decide) 0 kf_X5_9 (EC_21 X _ _) rfl inA5 (by decide) rfl dX5_readProduct_22 ?_
      refine lv_aload_n hx hb dX5_readProduct_25 rfl (lv_at hl 0 rfl) ?_
      refine w_get (T := TX5) C hw (by decide) 2 kf_X5_27 (EC_21 X _ _) rfl inA5 (by decide) rfl dX5_readProduct_26 ?_
      obtain ⟨h5, hf⟩ := gd_some hf
      refine w_iald C hw (by decide) (EC_22 X _ _) h5 rfl dX5_readProduct_29 ?_
      refine lv_bipush (v := 42) hx hb dX5_readProduct_30 (by decide) ?_
      refine lv_icmp_eq (tgt := 63) hx hb dX5_readProduct_32 (by decide) (fun c6 => ?_) (fun c6 => ?_)
      · replace hf := ite_t hf c6
        exact tX5_readProductg_63 C hr hRF hRL hr_readEither hr_readOperand ih st v1 _ _ _ hw (lv_sub hl [0, 1] rfl) hf
      · replace hf := ite_f hf c6
        refine lv_aload_n hx hb dX5_readProduct_35 rfl (lv_at hl 0 rfl) ?_
        refine w_get (T := TX5) C hw (by decide) 0 kf_X5_9 (EC_21 X _ _) rfl inA5 (by decide) rfl dX5_readProduct_36 ?_
        refine lv_aload_n hx hb dX5_readProduct_39 rfl (lv_at hl 0 rfl) ?_
        refine w_get (T := TX5) C hw (by decide) 2 kf_X5_27 (EC_21 X _ _) rfl inA5 (by decide) rfl dX5_readProduct_40 ?_
        obtain ⟨h7, hf⟩ := gd_some hf
        refine w_iald C hw (by decide) (EC_22 X _ _) h7 rfl dX5_readProduct_43 ?_
        refine lv_bipush (v := 47) hx hb dX5_readProduct_44 (by decide) ?_
        refine lv_icmp_eq (tgt := 63) hx hb dX5_readProduct_46 (by decide) (fun c8 => ?_) (fun c8 => ?_)
        · replace hf := ite_t hf c8
          exact tX5_readProductg_63 C hr hRF hRL hr_readEither hr_readOperand ih st v1 _ _ _ hw (lv_sub hl [0, 1] rfl) hf
        · replace hf := ite_f hf c8
          refine lv_aload_n hx hb dX5_readProduct_49 rfl (lv_at hl 0 rfl) ?_
          refine w_get (T := TX5) C hw (by decide) 0 kf_X5_9 (EC_21 X _ _) rfl inA5 (by decide) rfl dX5_readProduct_50 ?_
          refine lv_aload_n hx hb dX5_readProduct_53 rfl (lv_at hl 0 rfl) ?_
          refine w_get (T := TX5) C hw (by decide) 2 kf_X5_27 (EC_21 X _ _) rfl inA5 (by decide) rfl dX5_readProduct_54 ?_
          obtain ⟨h9, hf⟩ := gd_some hf
          refine w_iald C hw (by decide) (EC_22 X _ _) h9 rfl dX5_readProduct_57 ?_
          refine lv_bipush (v := 37) hx hb dX5_readProduct_58 (by decide) ?_
          refine lv_icmp_ne (tgt := 108) hx hb dX5_readProduct_60 (by decide) (fun c10 => ?_) (fun c10 => ?_)
          · replace hf := ite_f hf c10
            refine lv_iconst (v := 1) hx hb dX5_readProduct_108 (by decide) ?_
            exact w_zret (b := true) C hw hr rfl (so2 hf).1 (so2 hf).2 dX5_readProduct_109
          · replace hf := ite_t hf c10
            exact tX5_readProductg_63 C hr hRF hRL hr_readEither hr_readOperand ih st v1 _ _ _ hw (lv_sub hl [0, 1] rfl) hf
def fX5_readProductg (rc_readEither : Nat → St → Int32 → Option (Bool × St)) (rc_readOperand : Nat → St → Int32 → Option (Bool × St)) (n : Nat) (st : St) (a1 : Int32) : Option (Bool × St) := (fX5_readOperandg rc_readEither rc_readOperand n st a1).bind (fun r1 => if bI r1.1 = 0 then (some (false, r1.2)) else (fX5_readProductg_10 rc_readEither rc_readOperand n n r1.2 a1))
set_option maxHeartbeats 4000000 in
theorem zX5_readProductg (l : Launch) (X : WX) {FB LB RF RL : Nat} (hRF : FB + 3 ≤ RF) (hRL : LB + 68 ≤ RL) {rc_readEither : Nat → St → Int32 → Option (Bool × St)} (hr_readEither : ∀ (n : Nat) (st : St) (a1 : Int32) (R : Bool × St), rc_readEither n st a1 = some R → CtI l yX5_readEither cX5_readEither 2 .boolean ({ frames := FB, cells := 0, slots := 0, locals := LB }) EC 65 X [.ref (xq X 21), .int a1] st (bI R.1) R.2) {rc_readOperand : Nat → St → Int32 → Option (Bool × St)} (hr_readOperand : ∀ (n : Nat) (st : St) (a1 : Int32) (R : Bool × St), rc_readOperand n st a1 = some R → CtI l yX5_readOperand cX5_readOperand 4 .boolean ({ frames := FB, cells := 0, slots := 0, locals := LB }) EC 65 X [.ref (xq X 21), .int a1] st (bI R.1) R.2) (n : Nat) (st : St) (a1 : Int32) (R : Bool × St) (hf : fX5_readProductg rc_readEither rc_readOperand n st a1 = some R) : CtI l yX5_readProduct cX5_readProduct 3 .boolean ({ frames := RF, cells := 0, slots := 0, locals := RL }) EC 65 X [.ref (xq X 21), .int a1] st (bI R.1) R.2 := by
  refine ct_in (own := RX5) (by decide +kernel) rfl (Nat.le_of_ble_eq_true rfl) (fun p e s m below meth c C hr hw ls hl => ?_)
  obtain ⟨hx, hb, hml, hown, hts⟩ := id C.1
  have hl : lv_has ls 3 [(0, .ref (xq X 21)), (1, .int a1)] := hl
  unfold fX5_readProductg at hf
  refine lv_aload_n hx hb dX5_readProduct_0 rfl (lv_at hl 0 rfl) ?_
  refine lv_iload_n hx hb dX5_readProduct_1 rfl (lv_at hl 1 rfl) ?_
  obtain ⟨r1, k2, hf⟩ := bd_some hf
  refine w_goI hw (w_runV (rest := []) C hw (zX5_readOperandg _ _ (Nat.le_refl _) (Nat.le_refl _) hr_readEither hr_readOperand n st a1 r1 k2) (by decide) (EC_21 X _ _) rfl km_X5_58 ki_yX5_readOperand kv_X5_readOperand kz_X5 kc_X5_readOperand rfl ok_yX5_readOperand ⟨by dsimp only; omega, by dsimp only; omega⟩ rfl rfl rfl rfl hl.1 (Nat.le_of_ble_eq_true rfl) dX5_readProduct_2 ⟨Nat.zero_le _, Nat.zero_le _⟩) (fun H locs hw => ?_)
  refine lv_if_ne (tgt := 10) hx hb dX5_readProduct_5 (by decide) (fun c3 => ?_) (fun c3 => ?_)
  · replace hf := ite_f hf c3
    exact tX5_readProductg_10 C hr hRF hRL hr_readEither hr_readOperand n r1.2 a1 _ _ _ hw (lv_sub hl [0, 1] rfl) hf
  · replace hf := ite_t hf c3
    refine lv_iconst (v := 0) hx hb dX5_readProduct_8 (by decide) ?_
    exact w_zret (b := false) C hw hr rfl (so2 hf).1 (so2 hf).2 dX5_readProduct_9
def fX5_readSumg_70 (kB10 : St → Int32 → Option (Bool × St)) (rc_readEither : Nat → St → Int32 → Option (Bool × St)) (rc_readOperand : Nat → St → Int32 → Option (Bool × St)) (n : Nat) (st : St) (v1 : Int32) (w0 : Int32) : Option (Bool × St) := bnd (sI st 21 2 ((gI st 21 2) + (1 : Int32))) (fun st11 => (fX5_readProductg rc_readEither rc_readOperand n st11 v1).bind (fun r13 => if bI r13.1 = 0 then (some (false, r13.2)) else ((fX5_add r13.2 w0).bind (fun r16 => kB10 r16 v1))))
set_option maxHeartbeats 4000000 in
theorem tX5_readSumg_70 {p : Program} {l : Launch} {e : Env} {s : State} {m : MethodId} {args : Array Value} {below : List Frame} {meth : Method} {c : Code} {X : WX} (C : Amb 65 X p s m args meth c cX5_readSum 3 RX5) (hr : meth.sig.returnType = some .boolean) {R : Bool × St} {n : Nat} {FB LB RF RL : Nat} (hRF : FB + 4 ≤ RF) (hRL : LB + 90 ≤ RL) {rc_readEither : Nat → St → Int32 → Option (Bool × St)} (hr_readEither : ∀ (n : Nat) (st : St) (a1 : Int32) (R : Bool × St), rc_readEither n st a1 = some R → CtI l yX5_readEither cX5_readEither 2 .boolean ({ frames := FB, cells := 0, slots := 0, locals := LB }) EC 65 X [.ref (xq X 21), .int a1] st (bI R.1) R.2) {rc_readOperand : Nat → St → Int32 → Option (Bool × St)} (hr_readOperand : ∀ (n : Nat) (st : St) (a1 : Int32) (R : Bool × St), rc_readOperand n st a1 = some R → CtI l yX5_readOperand cX5_readOperand 4 .boolean ({ frames := FB, cells := 0, slots := 0, locals := LB }) EC 65 X [.ref (xq X 21), .int a1] st (bI R.1) R.2) {kB10 : St → Int32 → Option (Bool × St)} (hB10 : ∀ (st : St) (v1 : Int32) (H : Heap) (locs : List Loc) (ls : Array Slot), Wd EC 65 X s.heap st H locs → lv_has ls 3 [(0, .ref (xq X 21)), (1, .int v1)] → kB10 st v1 = some R → W p l e { frames := RF, cells := 0, slots := 0, locals := RL } s m args below meth c H locs 0 0 (QI EC 65 X (bI R.1) R.2 below args s) (F0 m 10 ls [])) : ∀ (st : St) (v1 : Int32) (w0 : Int32) (H : Heap) (locs : List Loc) (ls : Array Slot), Wd EC 65 X s.heap st H locs → lv_has ls 3 [(0, .ref (xq X 21)), (1, .int v1)] → fX5_readSumg_70 kB10 rc_readEither rc_readOperand n st v1 w0 = some R → W p l e { frames := RF, cells := 0, slots := 0, locals := RL } s m args below meth c H locs 0 0 (QI EC 65 X (bI R.1) R.2 below args s) (F0 m 70 ls [.int w0]) := by
  obtain ⟨hx, hb, hml, hown, hts⟩ := id C.1
  intro st v1 w0 H locs ls  hw hl hf
  unfold fX5_readSumg_70 at hf
  refine lv_istore_n (lv' := [(2, .int w0), (0, .ref (xq X 21)), (1, .int v1)]) hx hb dX5_readSum_70 rfl hl (by decide) rfl (fun ls hl => ?_)
  refine lv_aload_n hx hb dX5_readSum_71 rfl (lv_at hl 1 rfl) ?_
  refine lv_dup hx hb dX5_readSum_72 rfl ?_
  refine w_get (T := TX5) C hw (by decide) 2 kf_X5_27 (EC_21 X _ _) rfl inA5 (by decide) rfl dX5_readSum_73 ?_
  refine lv_iconst (v := 1) hx hb dX5_readSum_76 (by decide) ?_
  refine lv_iadd hx hb dX5_readSum_77 ?_
  obtain ⟨st11, es12⟩ : ∃ z : St, z = sI st 21 2 ((gI st 21 2) + (1 : Int32)) := ⟨_, rfl⟩
  replace hf := bnd_nm hf es12
  refine w_puti (T := TX5) C hw (by decide) 2 kf_X5_27 (EC_21 X _ _) rfl inA5 tyX5_ok nmX5 (by decide) rfl rfl (Nat.le_of_ble_eq_true rfl) rfl dX5_readSum_78 (fun H locs hw => ?_)
  rw [← es12] at hw
  refine lv_aload_n hx hb dX5_readSum_81 rfl (lv_at hl 1 rfl) ?_
  refine lv_iload_n hx hb dX5_readSum_82 rfl (lv_at hl 2 rfl) ?_
  obtain ⟨r13, k14, hf⟩ := bd_some hf
  refine w_goI hw (w_runV (rest := []) C hw (zX5_readProductg _ _ (Nat.le_refl _) (Nat.le_refl _) hr_readEither hr_readOperand n st11 v1 r13 k14) (by decide) (EC_21 X _ _) rfl km_X5_55 ki_yX5_readProduct kv_X5_readProduct kz_X5 kc_X5_readProduct rfl ok_yX5_readProduct ⟨by dsimp only; omega, by dsimp only; omega⟩ rfl rfl rfl rfl hl.1 (Nat.le_of_ble_eq_true rfl) dX5_readSum_83 ⟨Nat.zero_le _, Nat.zero_le _⟩) (fun H locs hw => ?_)
  refine lv_if_ne (tgt := 91) hx hb dX5_readSum_86 (by decide) (fun c15 => ?_) (fun c15 => ?_)
  · replace hf := ite_f hf c15
    refine lv_aload_n hx hb dX5_readSum_91 rfl (lv_at hl 1 rfl) ?_
    refine lv_iload_n hx hb dX5_readSum_92 rfl (lv_at hl 0 rfl) ?_
    obtain ⟨r16, k17, hf⟩ := bd_some hf
    refine w_goV hw (w_runV (rest := []) C hw (zX5_add _ _ r13.2 w0 r16 k17) (by decide) (EC_21 X _ _) rfl km_X5_38 ki_yX5_add kv_X5_add kz_X5 kc_X5_add rfl ok_yX5_add ⟨by dsimp only; omega, by dsimp only; omega⟩ rfl rfl rfl rfl hl.1 (Nat.le_of_ble_eq_true rfl) dX5_readSum_93 ⟨Nat.zero_le _, Nat.zero_le _⟩) (fun H locs hw => ?_)
    refine lv_goto (tgt := 10) hx hb dX5_readSum_96 (by decide) ?_
    exact hB10 r16 v1 _ _ _ hw (lv_sub hl [1, 2] rfl) hf
  · replace hf := ite_t hf c15
    refine lv_iconst (v := 0) hx hb dX5_readSum_89 (by decide) ?_
    exact w_zret (b := false) C hw hr rfl (so2 hf).1 (so2 hf).2 dX5_readSum_90
def fX5_readSumg_49 (kB10 : St → Int32 → Option (Bool × St)) (rc_readEither : Nat → St → Int32 → Option (Bool × St)) (rc_readOperand : Nat → St → Int32 → Option (Bool × St)) (n : Nat) (st : St) (v1 : Int32) : Option (Bool × St) := gd (inB (gI st 21 2) 120) (if gI st 22 (gI st 21 2).toNatClampNeg = (43 : Int32) then (fX5_readSumg_70 kB10 rc_readEither rc_readOperand n st v1 (-12 : Int32)) else (fX5_readSumg_70 kB10 rc_readEither rc_readOperand n st v1 (-13 : Int32)))
set_option maxHeartbeats 4000000 in
theorem tX5_readSumg_49 {p : Program} {l : Launch} {e : Env} {s : State} {m : MethodId} {args : Array Value} {below : List Frame} {meth : Method} {c : Code} {X : WX} (C : Amb 65 X p s m args meth c cX5_readSum 3 RX5) (hr : meth.sig.returnType = some .boolean) {R : Bool × St} {n : Nat} {FB LB RF RL : Nat} (hRF : FB + 4 ≤ RF) (hRL : LB + 90 ≤ RL) {rc_readEither : Nat → St → Int32 → Option (Bool × St)} (hr_readEither : ∀ (n : Nat) (st : St) (a1 : Int32) (R : Bool × St), rc_readEither n st a1 = some R → CtI l yX5_readEither cX5_readEither 2 .boolean ({ frames := FB, cells := 0, slots := 0, locals := LB }) EC 65 X [.ref (xq X 21), .int a1] st (bI R.1) R.2) {rc_readOperand : Nat → St → Int32 → Option (Bool × St)} (hr_readOperand : ∀ (n : Nat) (st : St) (a1 : Int32) (R : Bool × St), rc_readOperand n st a1 = some R → CtI l yX5_readOperand cX5_readOperand 4 .boolean ({ frames := FB, cells := 0, slots := 0, locals := LB }) EC 65 X [.ref (xq X 21), .int a1] st (bI R.1) R.2) {kB10 : St → Int32 → Option (Bool × St)} (hB10 : ∀ (st : St) (v1 : Int32) (H : Heap) (locs : List Loc) (ls : Array Slot), Wd EC 65 X s.heap st H locs → lv_has ls 3 [(0, .ref (xq X 21)), (1, .int v1)] → kB10 st v1 = some R → W p l e { frames := RF, cells := 0, slots := 0, locals := RL } s m args below meth c H locs 0 0 (QI EC 65 X (bI R.1) R.2 below args s) (F0 m 10 ls [])) : ∀ (st : St) (v1 : Int32) (H : Heap) (locs : List Loc) (ls : Array Slot), Wd EC 65 X s.heap st H locs → lv_has ls 3 [(0, .ref (xq X 21)), (1, .int v1)] → fX5_readSumg_49 kB10 rc_readEither rc_readOperand n st v1 = some R → W p l e { frames := RF, cells := 0, slots := 0, locals := RL } s m args below meth c H locs 0 0 (QI EC 65 X (bI R.1) R.2 below args s) (F0 m 49 ls []) := by
  obtain ⟨hx, hb, hml, hown, hts⟩ := id C.1
  intro st v1 H locs ls  hw hl hf
  unfold fX5_readSumg_49 at hf
  refine lv_aload_n hx hb dX5_readSum_49 rfl (lv_at hl 0 rfl) ?_
  refine w_get (T := TX5) C hw (by decide) 0 kf_X5_9 (EC_21 X _ _) rfl inA5 (by decide) rfl dX5_readSum_50 ?_
  refine lv_aload_n hx hb dX5_readSum_53 rfl (lv_at hl 0 rfl) ?_
  refine w_get (T := TX5) C hw (by decide) 2 kf_X5_27 (EC_21 X _ _) rfl inA5 (by decide) rfl dX5_readSum_54 ?_
  obtain ⟨h9, hf⟩ := gd_some hf
  refine w_iald C hw (by decide) (EC_22 X _ _) h9 rfl dX5_readSum_57 ?_
  refine lv_bipush (v := 43) hx hb dX5_readSum_58 (by decide) ?_
  refine lv_icmp_ne (tgt := 68) hx hb dX5_readSum_60 (by decide) (fun c10 => ?_) (fun c10 => ?_)
  · replace hf := ite_f hf c10
    refine lv_bipush (v := -13) hx hb dX5_readSum_68 (by decide) ?_
    exact tX5_readSumg_70 C hr hRF hRL hr_readEither hr_readOperand hB10 st v1 (-13 : Int32) _ _ _ hw (lv_sub hl [0, 1] rfl) hf
  · replace hf := ite_t hf c10
    refine lv_bipush (v := -12) hx hb dX5_readSum_63 (by decide) ?_
    refine lv_goto (tgt := 70) hx hb dX5_readSum_65 (by decide) ?_
    exact tX5_readSumg_70 C hr hRF hRL hr_readEither hr_readOperand hB10 st v1 (-12 : Int32) _ _ _ hw (lv_sub hl [0, 1] rfl) hf
def fX5_readSumg_10 (rc_readEither : Nat → St → Int32 → Option (Bool × St)) (rc_readOperand : Nat → St → Int32 → Option (Bool × St)) (n : Nat) : Nat → St → Int32 → Option (Bool × St)
  | 0, _, _ => none
  | k + 1, st, v1 => if gI st 21 1 ≤ gI st 21 2 then (some (true, st)) else (gd (inB (gI st 21 2) 120) (if gI st 22 (gI st 21 2).toNatClampNeg = (43 : Int32) then (fX5_readSumg_49 (fX5_readSumg_10 rc_readEither rc_readOperand n k) rc_readEither rc_readOperand n st v1) else (gd (inB (gI st 21 2) 120) (if gI st 22 (gI st 21 2).toNatClampNeg = (45 : Int32) then (fX5_readSumg_49 (fX5_readSumg_10 rc_readEither rc_readOperand n k) rc_readEither rc_readOperand n st v1) else (some (true, st))))))
set_option maxHeartbeats 4000000 in
theorem tX5_readSumg_10 {p : Program} {l : Launch} {e : Env} {s : State} {m : MethodId} {args : Array Value} {below : List Frame} {meth : Method} {c : Code} {X : WX} (C : Amb 65 X p s m args meth c cX5_readSum 3 RX5) (hr : meth.sig.returnType = some .boolean) {R : Bool × St} {n : Nat} {FB LB RF RL : Nat} (hRF : FB + 4 ≤ RF) (hRL : LB + 90 ≤ RL) {rc_readEither : Nat → St → Int32 → Option (Bool × St)} (hr_readEither : ∀ (n : Nat) (st : St) (a1 : Int32) (R : Bool × St), rc_readEither n st a1 = some R → CtI l yX5_readEither cX5_readEither 2 .boolean ({ frames := FB, cells := 0, slots := 0, locals := LB }) EC 65 X [.ref (xq X 21), .int a1] st (bI R.1) R.2) {rc_readOperand : Nat → St → Int32 → Option (Bool × St)} (hr_readOperand : ∀ (n : Nat) (st : St) (a1 : Int32) (R : Bool × St), rc_readOperand n st a1 = some R → CtI l yX5_readOperand cX5_readOperand 4 .boolean ({ frames := FB, cells := 0, slots := 0, locals := LB }) EC 65 X [.ref (xq X 21), .int a1] st (bI R.1) R.2) : ∀ (k : Nat) (st : St) (v1 : Int32) (H : Heap) (locs : List Loc) (ls : Array Slot), Wd EC 65 X s.heap st H locs → lv_has ls 3 [(0, .ref (xq X 21)), (1, .int v1)] → fX5_readSumg_10 rc_readEither rc_readOperand n k st v1 = some R → W p l e { frames := RF, cells := 0, slots := 0, locals := RL } s m args below meth c H locs 0 0 (QI EC 65 X (bI R.1) R.2 below args s) (F0 m 10 ls []) := by
  obtain ⟨hx, hb, hml, hown, hts⟩ := id C.1
  intro k
  induction k with
  | zero => intro st v1 H locs ls  hw hl hf; exact absurd (show none = some R from hf) (fun z => by cases z)
  | succ k ih =>
    intro st v1 H locs ls  hw hl hf
    rw [fX5_readSumg_10] at hf
    refine lv_aload_n hx hb dX5_readSum_10 rfl (lv_at hl 0 rfl) ?_
    refine w_get (T := TX5) C hw (by decide) 2 kf_X5_27 (EC_21 X _ _) rfl inA5 (by decide) rfl dX5_readSum_11 ?_
    refine lv_aload_n hx hb dX5_readSum_14 rfl (lv_at hl 0 rfl) ?_
    refine w_get (T := TX5) C hw (by decide) 1 kf_X5_16 (EC_21 X _ _) rfl inA5 (by decide) rfl dX5_readSum_15 ?_
    refine lv_icmp_ge (tgt := 99) hx hb dX5_readSum_18 (by decide) (fun c4 => ?_) (fun c4 => ?_)
    · replace hf := ite_t hf c4
      refine lv_iconst (v := 1) hx hb dX5_readSum_99 (by decide) ?_
      exact w_zret (b := true) C hw hr rfl (so2 hf).1 (so2 hf).2 dX5_readSum_100
    · replace hf := ite_f hf c4
      refine lv_aload_n hx hb dX5_readSum_21 rfl (lv_at hl 0 rfl) ?_
      refine w_get (T := TX5) C hw (by decide) 0 kf_X5_9 (EC_21 X _ _) rfl inA5 (by decide) rfl dX5_readSum_22 ?_
      refine lv_aload_n hx hb dX5_readSum_25 rfl (lv_at hl 0 rfl) ?_
      refine w_get (T := TX5) C hw (by decide) 2 kf_X5_27 (EC_21 X _ _) rfl inA5 (by decide) rfl dX5_readSum_26 ?_
      obtain ⟨h5, hf⟩ := gd_some hf
      refine w_iald C hw (by decide) (EC_22 X _ _) h5 rfl dX5_readSum_29 ?_
      refine lv_bipush (v := 43) hx hb dX5_readSum_30 (by decide) ?_
      refine lv_icmp_eq (tgt := 49) hx hb dX5_readSum_32 (by decide) (fun c6 => ?_) (fun c6 => ?_)
      · replace hf := ite_t hf c6
        exact tX5_readSumg_49 C hr hRF hRL hr_readEither hr_readOperand ih st v1 _ _ _ hw (lv_sub hl [0, 1] rfl) hf
      · replace hf := ite_f hf c6
        refine lv_aload_n hx hb dX5_readSum_35 rfl (lv_at hl 0 rfl) ?_
        refine w_get (T := TX5) C hw (by decide) 0 kf_X5_9 (EC_21 X _ _) rfl inA5 (by decide) rfl dX5_readSum_36 ?_
        refine lv_aload_n hx hb dX5_readSum_39 rfl (lv_at hl 0 rfl) ?_
        refine w_get (T := TX5) C hw (by decide) 2 kf_X5_27 (EC_21 X _ _) rfl inA5 (by decide) rfl dX5_readSum_40 ?_
        obtain ⟨h7, hf⟩ := gd_some hf
        refine w_iald C hw (by decide) (EC_22 X _ _) h7 rfl dX5_readSum_43 ?_
        refine lv_bipush (v := 45) hx hb dX5_readSum_44 (by decide) ?_
        refine lv_icmp_ne (tgt := 99) hx hb dX5_readSum_46 (by decide) (fun c8 => ?_) (fun c8 => ?_)
        · replace hf := ite_f hf c8
          refine lv_iconst (v := 1) hx hb dX5_readSum_99 (by decide) ?_
          exact w_zret (b := true) C hw hr rfl (so2 hf).1 (so2 hf).2 dX5_readSum_100
        · replace hf := ite_t hf c8
          exact tX5_readSumg_49 C hr hRF hRL hr_readEither hr_readOperand ih st v1 _ _ _ hw (lv_sub hl [0, 1] rfl) hf
def fX5_readSumg (rc_readEither : Nat → St → Int32 → Option (Bool × St)) (rc_readOperand : Nat → St → Int32 → Option (Bool × St)) (n : Nat) (st : St) (a1 : Int32) : Option (Bool × St) := (fX5_readProductg rc_readEither rc_readOperand n st a1).bind (fun r1 => if bI r1.1 = 0 then (some (false, r1.2)) else (fX5_readSumg_10 rc_readEither rc_readOperand n n r1.2 a1))
set_option maxHeartbeats 4000000 in
theorem zX5_readSumg (l : Launch) (X : WX) {FB LB RF RL : Nat} (hRF : FB + 4 ≤ RF) (hRL : LB + 90 ≤ RL) {rc_readEither : Nat → St → Int32 → Option (Bool × St)} (hr_readEither : ∀ (n : Nat) (st : St) (a1 : Int32) (R : Bool × St), rc_readEither n st a1 = some R → CtI l yX5_readEither cX5_readEither 2 .boolean ({ frames := FB, cells := 0, slots := 0, locals := LB }) EC 65 X [.ref (xq X 21), .int a1] st (bI R.1) R.2) {rc_readOperand : Nat → St → Int32 → Option (Bool × St)} (hr_readOperand : ∀ (n : Nat) (st : St) (a1 : Int32) (R : Bool × St), rc_readOperand n st a1 = some R → CtI l yX5_readOperand cX5_readOperand 4 .boolean ({ frames := FB, cells := 0, slots := 0, locals := LB }) EC 65 X [.ref (xq X 21), .int a1] st (bI R.1) R.2) (n : Nat) (st : St) (a1 : Int32) (R : Bool × St) (hf : fX5_readSumg rc_readEither rc_readOperand n st a1 = some R) : CtI l yX5_readSum cX5_readSum 3 .boolean ({ frames := RF, cells := 0, slots := 0, locals := RL }) EC 65 X [.ref (xq X 21), .int a1] st (bI R.1) R.2 := by
  refine ct_in (own := RX5) (by decide +kernel) rfl (Nat.le_of_ble_eq_true rfl) (fun p e s m below meth c C hr hw ls hl => ?_)
  obtain ⟨hx, hb, hml, hown, hts⟩ := id C.1
  have hl : lv_has ls 3 [(0, .ref (xq X 21)), (1, .int a1)] := hl
  unfold fX5_readSumg at hf
  refine lv_aload_n hx hb dX5_readSum_0 rfl (lv_at hl 0 rfl) ?_
  refine lv_iload_n hx hb dX5_readSum_1 rfl (lv_at hl 1 rfl) ?_
  obtain ⟨r1, k2, hf⟩ := bd_some hf
  refine w_goI hw (w_runV (rest := []) C hw (zX5_readProductg _ _ (Nat.le_refl _) (Nat.le_refl _) hr_readEither hr_readOperand n st a1 r1 k2) (by decide) (EC_21 X _ _) rfl km_X5_55 ki_yX5_readProduct kv_X5_readProduct kz_X5 kc_X5_readProduct rfl ok_yX5_readProduct ⟨by dsimp only; omega, by dsimp only; omega⟩ rfl rfl rfl rfl hl.1 (Nat.le_of_ble_eq_true rfl) dX5_readSum_2 ⟨Nat.zero_le _, Nat.zero_le _⟩) (fun H locs hw => ?_)
  refine lv_if_ne (tgt := 10) hx hb dX5_readSum_5 (by decide) (fun c3 => ?_) (fun c3 => ?_)
  · replace hf := ite_f hf c3
    exact tX5_readSumg_10 C hr hRF hRL hr_readEither hr_readOperand n r1.2 a1 _ _ _ hw (lv_sub hl [0, 1] rfl) hf
  · replace hf := ite_t hf c3
    refine lv_iconst (v := 0) hx hb dX5_readSum_8 (by decide) ?_
    exact w_zret (b := false) C hw hr rfl (so2 hf).1 (so2 hf).2 dX5_readSum_9
def fX5_readComparedg (rc_readEither : Nat → St → Int32 → Option (Bool × St)) (rc_readOperand : Nat → St → Int32 → Option (Bool × St)) (n : Nat) (st : St) (a1 : Int32) : Option (Bool × St) := (fX5_readSumg rc_readEither rc_readOperand n st a1).bind (fun r1 => if bI r1.1 = 0 then (some (false, r1.2)) else ((fX5_signHere r1.2 (60 : Int32) (-9 : Int32) (61 : Int32) (-10 : Int32) (62 : Int32) (-11 : Int32)).bind (fun r4 => if r4 = 0 then (some (true, r1.2)) else (bnd (sI r1.2 21 2 ((gI r1.2 21 2) + (1 : Int32))) (fun st7 => (fX5_readSumg rc_readEither rc_readOperand n st7 a1).bind (fun r9 => if bI r9.1 = 0 then (some (false, r9.2)) else ((fX5_add r9.2 r4).bind (fun r12 => some (true, r12)))))))))
set_option maxHeartbeats 4000000 in
theorem zX5_readComparedg (l : Launch) (X : WX) {FB LB RF RL : Nat} (hRF : FB + 5 ≤ RF) (hRL : LB + 112 ≤ RL) {rc_readEither : Nat → St → Int32 → Option (Bool × St)} (hr_readEither : ∀ (n : Nat) (st : St) (a1 : Int32) (R : Bool × St), rc_readEither n st a1 = some R → CtI l yX5_readEither cX5_readEither 2 .boolean ({ frames := FB, cells := 0, slots := 0, locals := LB }) EC 65 X [.ref (xq X 21), .int a1] st (bI R.1) R.2) {rc_readOperand : Nat → St → Int32 → Option (Bool × St)} (hr_readOperand : ∀ (n : Nat) (st : St) (a1 : Int32) (R : Bool × St), rc_readOperand n st a1 = some R → CtI l yX5_readOperand cX5_readOperand 4 .boolean ({ frames := FB, cells := 0, slots := 0, locals := LB }) EC 65 X [.ref (xq X 21), .int a1] st (bI R.1) R.2) (n : Nat) (st : St) (a1 : Int32) (R : Bool × St) (hf : fX5_readComparedg rc_readEither rc_readOperand n st a1 = some R) : CtI l yX5_readCompared cX5_readCompared 3 .boolean ({ frames := RF, cells := 0, slots := 0, locals := RL }) EC 65 X [.ref (xq X 21), .int a1] st (bI R.1) R.2 := by
  refine ct_in (own := RX5) (by decide +kernel) rfl (Nat.le_of_ble_eq_true rfl) (fun p e s m below meth c C hr hw ls hl => ?_)
  obtain ⟨hx, hb, hml, hown, hts⟩ := id C.1
  have hl : lv_has ls 3 [(0, .ref (xq X 21)), (1, .int a1)] := hl
  unfold fX5_readComparedg at hf
  refine lv_aload_n hx hb dX5_readCompared_0 rfl (lv_at hl 0 rfl) ?_
  refine lv_iload_n hx hb dX5_readCompared_1 rfl (lv_at hl 1 rfl) ?_
  obtain ⟨r1, k2, hf⟩ := bd_some hf
  refine w_goI hw (w_runV (rest := []) C hw (zX5_readSumg _ _ (Nat.le_refl _) (Nat.le_refl _) hr_readEither hr_readOperand n st a1 r1 k2) (by decide) (EC_21 X _ _) rfl km_X5_48 ki_yX5_readSum kv_X5_readSum kz_X5 kc_X5_readSum rfl ok_yX5_readSum ⟨by dsimp only; omega, by dsimp only; omega⟩ rfl rfl rfl rfl hl.1 (Nat.le_of_ble_eq_true rfl) dX5_readCompared_2 ⟨Nat.zero_le _, Nat.zero_le _⟩) (fun H locs hw => ?_)
  refine lv_if_ne (tgt := 10) hx hb dX5_readCompared_5 (by decide) (fun c3 => ?_) (fun c3 => ?_)
  · replace hf := ite_f hf c3
    refine lv_aload_n hx hb dX5_readCompared_10 rfl (lv_at hl 0 rfl) ?_
    refine lv_bipush (v := 60) hx hb dX5_readCompared_11 (by decide) ?_
    refine lv_bipush (v := -9) hx hb dX5_readCompared_13 (by decide) ?_
    refine lv_bipush (v := 61) hx hb dX5_readCompared_15 (by decide) ?_
    refine lv_bipush (v := -10) hx hb dX5_readCompared_17 (by decide) ?_
    refine lv_bipush (v := 62) hx hb dX5_readCompared_19 (by decide) ?_
    refine lv_bipush (v := -11) hx hb dX5_readCompared_21 (by decide) ?_
    obtain ⟨r4, k5, hf⟩ := bd_some hf
    refine w_goI hw (w_runV (rest := []) C hw (zX5_signHere _ _ r1.2 (60 : Int32) (-9 : Int32) (61 : Int32) (-10 : Int32) (62 : Int32) (-11 : Int32) r4 k5) (by decide) (EC_21 X _ _) rfl km_X5_51 ki_yX5_signHere kv_X5_signHere kz_X5 kc_X5_signHere rfl ok_yX5_signHere ⟨by dsimp only; omega, by dsimp only; omega⟩ rfl rfl rfl rfl hl.1 (Nat.le_of_ble_eq_true rfl) dX5_readCompared_23 ⟨Nat.zero_le _, Nat.zero_le _⟩) (fun H locs hw => ?_)
    refine lv_istore_n (lv' := [(2, .int r4), (0, .ref (xq X 21)), (1, .int a1)]) hx hb dX5_readCompared_26 rfl hl (by decide) rfl (fun ls hl => ?_)
    refine lv_iload_n hx hb dX5_readCompared_27 rfl (lv_at hl 0 rfl) ?_
    refine lv_if_ne (tgt := 33) hx hb dX5_readCompared_28 (by decide) (fun c6 => ?_) (fun c6 => ?_)
    · replace hf := ite_f hf c6
      refine lv_aload_n hx hb dX5_readCompared_33 rfl (lv_at hl 1 rfl) ?_
      refine lv_dup hx hb dX5_readCompared_34 rfl ?_
      refine w_get (T := TX5) C hw (by decide) 2 kf_X5_27 (EC_21 X _ _) rfl inA5 (by decide) rfl dX5_readCompared_35 ?_
      refine lv_iconst (v := 1) hx hb dX5_readCompared_38 (by decide) ?_
      refine lv_iadd hx hb dX5_readCompared_39 ?_
      obtain ⟨st7, es8⟩ : ∃ z : St, z = sI r1.2 21 2 ((gI r1.2 21 2) + (1 : Int32)) := ⟨_, rfl⟩
      replace hf := bnd_nm hf es8
      refine w_puti (T := TX5) C hw (by decide) 2 kf_X5_27 (EC_21 X _ _) rfl inA5 tyX5_ok nmX5 (by decide) rfl rfl (Nat.le_of_ble_eq_true rfl) rfl dX5_readCompared_40 (fun H locs hw => ?_)
      rw [← es8] at hw
      refine lv_aload_n hx hb dX5_readCompared_43 rfl (lv_at hl 1 rfl) ?_
      refine lv_iload_n hx hb dX5_readCompared_44 rfl (lv_at hl 2 rfl) ?_
      obtain ⟨r9, k10, hf⟩ := bd_some hf
      refine w_goI hw (w_runV (rest := []) C hw (zX5_readSumg _ _ (Nat.le_refl _) (Nat.le_refl _) hr_readEither hr_readOperand n st7 a1 r9 k10) (by decide) (EC_21 X _ _) rfl km_X5_48 ki_yX5_readSum kv_X5_readSum kz_X5 kc_X5_readSum rfl ok_yX5_readSum ⟨by dsimp only; omega, by dsimp only; omega⟩ rfl rfl rfl rfl hl.1 (Nat.le_of_ble_eq_true rfl) dX5_readCompared_45 ⟨Nat.zero_le _, Nat.zero_le _⟩) (fun H locs hw => ?_)
      refine lv_if_ne (tgt := 53) hx hb dX5_readCompared_48 (by decide) (fun c11 => ?_) (fun c11 => ?_)
      · replace hf := ite_f hf c11
        refine lv_aload_n hx hb dX5_readCompared_53 rfl (lv_at hl 1 rfl) ?_
        refine lv_iload_n hx hb dX5_readCompared_54 rfl (lv_at hl 0 rfl) ?_
        obtain ⟨r12, k13, hf⟩ := bd_some hf
        refine w_goV hw (w_runV (rest := []) C hw (zX5_add _ _ r9.2 r4 r12 k13) (by decide) (EC_21 X _ _) rfl km_X5_38 ki_yX5_add kv_X5_add kz_X5 kc_X5_add rfl ok_yX5_add ⟨by dsimp only; omega, by dsimp only; omega⟩ rfl rfl rfl rfl hl.1 (Nat.le_of_ble_eq_true rfl) dX5_readCompared_55 ⟨Nat.zero_le _, Nat.zero_le _⟩) (fun H locs hw => ?_)
        refine lv_iconst (v := 1) hx hb dX5_readCompared_58 (by decide) ?_
        exact w_zret (b := true) C hw hr rfl (so2 hf).1 (so2 hf).2 dX5_readCompared_59
      · replace hf := ite_t hf c11
        refine lv_iconst (v := 0) hx hb dX5_readCompared_51 (by decide) ?_
        exact w_zret (b := false) C hw hr rfl (so2 hf).1 (so2 hf).2 dX5_readCompared_52
    · replace hf := ite_t hf c6
      refine lv_iconst (v := 1) hx hb dX5_readCompared_31 (by decide) ?_
      exact w_zret (b := true) C hw hr rfl (so2 hf).1 (so2 hf).2 dX5_readCompared_32
  · replace hf := ite_t hf c3
    refine lv_iconst (v := 0) hx hb dX5_readCompared_8 (by decide) ?_
    exact w_zret (b := false) C hw hr rfl (so2 hf).1 (so2 hf).2 dX5_readCompared_9
def fX5_readBothg_10 (rc_readEither : Nat → St → Int32 → Option (Bool × St)) (rc_readOperand : Nat → St → Int32 → Option (Bool × St)) (n : Nat) : Nat → St → Int32 → Option (Bool × St)
  | 0, _, _ => none
  | k + 1, st, v1 => if gI st 21 1 ≤ gI st 21 2 then (some (true, st)) else (gd (inB (gI st 21 2) 120) (if gI st 22 (gI st 21 2).toNatClampNeg = (38 : Int32) then (bnd (sI st 21 2 ((gI st 21 2) + (1 : Int32))) (fun st7 => (fX5_readComparedg rc_readEither rc_readOperand n st7 v1).bind (fun r9 => if bI r9.1 = 0 then (some (false, r9.2)) else ((fX5_add r9.2 (-8 : Int32)).bind (fun r12 => fX5_readBothg_10 rc_readEither rc_readOperand n k r12 v1))))) else (some (true, st))))
set_option maxHeartbeats 4000000 in
theorem tX5_readBothg_10 {p : Program} {l : Launch} {e : Env} {s : State} {m : MethodId} {args : Array Value} {below : List Frame} {meth : Method} {c : Code} {X : WX} (C : Amb 65 X p s m args meth c cX5_readBoth 2 RX5) (hr : meth.sig.returnType = some .boolean) {R : Bool × St} {n : Nat} {FB LB RF RL : Nat} (hRF : FB + 6 ≤ RF) (hRL : LB + 134 ≤ RL) {rc_readEither : Nat → St → Int32 → Option (Bool × St)} (hr_readEither : ∀ (n : Nat) (st : St) (a1 : Int32) (R : Bool × St), rc_readEither n st a1 = some R → CtI l yX5_readEither cX5_readEither 2 .boolean ({ frames := FB, cells := 0, slots := 0, locals := LB }) EC 65 X [.ref (xq X 21), .int a1] st (bI R.1) R.2) {rc_readOperand : Nat → St → Int32 → Option (Bool × St)} (hr_readOperand : ∀ (n : Nat) (st : St) (a1 : Int32) (R : Bool × St), rc_readOperand n st a1 = some R → CtI l yX5_readOperand cX5_readOperand 4 .boolean ({ frames := FB, cells := 0, slots := 0, locals := LB }) EC 65 X [.ref (xq X 21), .int a1] st (bI R.1) R.2) : ∀ (k : Nat) (st : St) (v1 : Int32) (H : Heap) (locs : List Loc) (ls : Array Slot), Wd EC 65 X s.heap st H locs → lv_has ls 2 [(0, .ref (xq X 21)), (1, .int v1)] → fX5_readBothg_10 rc_readEither rc_readOperand n k st v1 = some R → W p l e { frames := RF, cells := 0, slots := 0, locals := RL } s m args below meth c H locs 0 0 (QI EC 65 X (bI R.1) R.2 below args s) (F0 m 10 ls []) := by
  obtain ⟨hx, hb, hml, hown, hts⟩ := id C.1
  intro k
  induction k with
  | zero => intro st v1 H locs ls  hw hl hf; exact absurd (show none = some R from hf) (fun z => by cases z)
  | succ k ih =>
    intro st v1 H locs ls  hw hl hf
    rw [fX5_readBothg_10] at hf
    refine lv_aload_n hx hb dX5_readBoth_10 rfl (lv_at hl 0 rfl) ?_
    refine w_get (T := TX5) C hw (by decide) 2 kf_X5_27 (EC_21 X _ _) rfl inA5 (by decide) rfl dX5_readBoth_11 ?_
    refine lv_aload_n hx hb dX5_readBoth_14 rfl (lv_at hl 0 rfl) ?_
    refine w_get (T := TX5) C hw (by decide) 1 kf_X5_16 (EC_21 X _ _) rfl inA5 (by decide) rfl dX5_readBoth_15 ?_
    refine lv_icmp_ge (tgt := 64) hx hb dX5_readBoth_18 (by decide) (fun c4 => ?_) (fun c4 => ?_)
    · replace hf := ite_t hf c4
      refine lv_iconst (v := 1) hx hb dX5_readBoth_64 (by decide) ?_
      exact w_zret (b := true) C hw hr rfl (so2 hf).1 (so2 hf).2 dX5_readBoth_65
    · replace hf := ite_f hf c4
      refine lv_aload_n hx hb dX5_readBoth_21 rfl (lv_at hl 0 rfl) ?_
      refine w_get (T := TX5) C hw (by decide) 0 kf_X5_9 (EC_21 X _ _) rfl inA5 (by decide) rfl dX5_readBoth_22 ?_
      refine lv_aload_n hx hb dX5_readBoth_25 rfl (lv_at hl 0 rfl) ?_
      refine w_get (T := TX5) C hw (by decide) 2 kf_X5_27 (EC_21 X _ _) rfl inA5 (by decide) rfl dX5_readBoth_26 ?_
      obtain ⟨h5, hf⟩ := gd_some hf
      refine w_iald C hw (by decide) (EC_22 X _ _) h5 rfl dX5_readBoth_29 ?_
      refine lv_bipush (v := 38) hx hb dX5_readBoth_30 (by decide) ?_
      refine lv_icmp_ne (tgt := 64) hx hb dX5_readBoth_32 (by decide) (fun c6 => ?_) (fun c6 => ?_)
      · replace hf := ite_f hf c6
        refine lv_iconst (v := 1) hx hb dX5_readBoth_64 (by decide) ?_
        exact w_zret (b := true) C hw hr rfl (so2 hf).1 (so2 hf).2 dX5_readBoth_65
      · replace hf := ite_t hf c6
        refine lv_aload_n hx hb dX5_readBoth_35 rfl (lv_at hl 0 rfl) ?_
        refine lv_dup hx hb dX5_readBoth_36 rfl ?_
        refine w_get (T := TX5) C hw (by decide) 2 kf_X5_27 (EC_21 X _ _) rfl inA5 (by decide) rfl dX5_readBoth_37 ?_
        refine lv_iconst (v := 1) hx hb dX5_readBoth_40 (by decide) ?_
        refine lv_iadd hx hb dX5_readBoth_41 ?_
        obtain ⟨st7, es8⟩ : ∃ z : St, z = sI st 21 2 ((gI st 21 2) + (1 : Int32)) := ⟨_, rfl⟩
        replace hf := bnd_nm hf es8
        refine w_puti (T := TX5) C hw (by decide) 2 kf_X5_27 (EC_21 X _ _) rfl inA5 tyX5_ok nmX5 (by decide) rfl rfl (Nat.le_of_ble_eq_true rfl) rfl dX5_readBoth_42 (fun H locs hw => ?_)
        rw [← es8] at hw
        refine lv_aload_n hx hb dX5_readBoth_45 rfl (lv_at hl 0 rfl) ?_
        refine lv_iload_n hx hb dX5_readBoth_46 rfl (lv_at hl 1 rfl) ?_
        obtain ⟨r9, k10, hf⟩ := bd_some hf
        refine w_goI hw (w_runV (rest := []) C hw (zX5_readComparedg _ _ (Nat.le_refl _) (Nat.le_refl _) hr_readEither hr_readOperand n st7 v1 r9 k10) (by decide) (EC_21 X _ _) rfl km_X5_45 ki_yX5_readCompared kv_X5_readCompared kz_X5 kc_X5_readCompared rfl ok_yX5_readCompared ⟨by dsimp only; omega, by dsimp only; omega⟩ rfl rfl rfl rfl hl.1 (Nat.le_of_ble_eq_true rfl) dX5_readBoth_47 ⟨Nat.zero_le _, Nat.zero_le _⟩) (fun H locs hw => ?_)
        refine lv_if_ne (tgt := 55) hx hb dX5_readBoth_50 (by decide) (fun c11 => ?_) (fun c11 => ?_)
        · replace hf := ite_f hf c11
          refine lv_aload_n hx hb dX5_readBoth_55 rfl (lv_at hl 0 rfl) ?_
          refine lv_bipush (v := -8) hx hb dX5_readBoth_56 (by decide) ?_
          obtain ⟨r12, k13, hf⟩ := bd_some hf
          refine w_goV hw (w_runV (rest := []) C hw (zX5_add _ _ r9.2 (-8 : Int32) r12 k13) (by decide) (EC_21 X _ _) rfl km_X5_38 ki_yX5_add kv_X5_add kz_X5 kc_X5_add rfl ok_yX5_add ⟨by dsimp only; omega, by dsimp only; omega⟩ rfl rfl rfl rfl hl.1 (Nat.le_of_ble_eq_true rfl) dX5_readBoth_58 ⟨Nat.zero_le _, Nat.zero_le _⟩) (fun H locs hw => ?_)
          refine lv_goto (tgt := 10) hx hb dX5_readBoth_61 (by decide) ?_
          exact ih r12 v1 _ _ _ hw (lv_sub hl [0, 1] rfl) hf
        · replace hf := ite_t hf c11
          refine lv_iconst (v := 0) hx hb dX5_readBoth_53 (by decide) ?_
          exact w_zret (b := false) C hw hr rfl (so2 hf).1 (so2 hf).2 dX5_readBoth_54
def fX5_readBothg (rc_readEither : Nat → St → Int32 → Option (Bool × St)) (rc_readOperand : Nat → St → Int32 → Option (Bool × St)) (n : Nat) (st : St) (a1 : Int32) : Option (Bool × St) := (fX5_readComparedg rc_readEither rc_readOperand n st a1).bind (fun r1 => if bI r1.1 = 0 then (some (false, r1.2)) else (fX5_readBothg_10 rc_readEither rc_readOperand n n r1.2 a1))
set_option maxHeartbeats 4000000 in
theorem zX5_readBothg (l : Launch) (X : WX) {FB LB RF RL : Nat} (hRF : FB + 6 ≤ RF) (hRL : LB + 134 ≤ RL) {rc_readEither : Nat → St → Int32 → Option (Bool × St)} (hr_readEither : ∀ (n : Nat) (st : St) (a1 : Int32) (R : Bool × St), rc_readEither n st a1 = some R → CtI l yX5_readEither cX5_readEither 2 .boolean ({ frames := FB, cells := 0, slots := 0, locals := LB }) EC 65 X [.ref (xq X 21), .int a1] st (bI R.1) R.2) {rc_readOperand : Nat → St → Int32 → Option (Bool × St)} (hr_readOperand : ∀ (n : Nat) (st : St) (a1 : Int32) (R : Bool × St), rc_readOperand n st a1 = some R → CtI l yX5_readOperand cX5_readOperand 4 .boolean ({ frames := FB, cells := 0, slots := 0, locals := LB }) EC 65 X [.ref (xq X 21), .int a1] st (bI R.1) R.2) (n : Nat) (st : St) (a1 : Int32) (R : Bool × St) (hf : fX5_readBothg rc_readEither rc_readOperand n st a1 = some R) : CtI l yX5_readBoth cX5_readBoth 2 .boolean ({ frames := RF, cells := 0, slots := 0, locals := RL }) EC 65 X [.ref (xq X 21), .int a1] st (bI R.1) R.2 := by
  refine ct_in (own := RX5) (by decide +kernel) rfl (Nat.le_of_ble_eq_true rfl) (fun p e s m below meth c C hr hw ls hl => ?_)
  obtain ⟨hx, hb, hml, hown, hts⟩ := id C.1
  have hl : lv_has ls 2 [(0, .ref (xq X 21)), (1, .int a1)] := hl
  unfold fX5_readBothg at hf
  refine lv_aload_n hx hb dX5_readBoth_0 rfl (lv_at hl 0 rfl) ?_
  refine lv_iload_n hx hb dX5_readBoth_1 rfl (lv_at hl 1 rfl) ?_
  obtain ⟨r1, k2, hf⟩ := bd_some hf
  refine w_goI hw (w_runV (rest := []) C hw (zX5_readComparedg _ _ (Nat.le_refl _) (Nat.le_refl _) hr_readEither hr_readOperand n st a1 r1 k2) (by decide) (EC_21 X _ _) rfl km_X5_45 ki_yX5_readCompared kv_X5_readCompared kz_X5 kc_X5_readCompared rfl ok_yX5_readCompared ⟨by dsimp only; omega, by dsimp only; omega⟩ rfl rfl rfl rfl hl.1 (Nat.le_of_ble_eq_true rfl) dX5_readBoth_2 ⟨Nat.zero_le _, Nat.zero_le _⟩) (fun H locs hw => ?_)
  refine lv_if_ne (tgt := 10) hx hb dX5_readBoth_5 (by decide) (fun c3 => ?_) (fun c3 => ?_)
  · replace hf := ite_f hf c3
    exact tX5_readBothg_10 C hr hRF hRL hr_readEither hr_readOperand n r1.2 a1 _ _ _ hw (lv_sub hl [0, 1] rfl) hf
  · replace hf := ite_t hf c3
    refine lv_iconst (v := 0) hx hb dX5_readBoth_8 (by decide) ?_
    exact w_zret (b := false) C hw hr rfl (so2 hf).1 (so2 hf).2 dX5_readBoth_9
def fX5_readEitherg_10 (rc_readEither : Nat → St → Int32 → Option (Bool × St)) (rc_readOperand : Nat → St → Int32 → Option (Bool × St)) (n : Nat) : Nat → St → Int32 → Option (Bool × St)
  | 0, _, _ => none
  | k + 1, st, v1 => if gI st 21 1 ≤ gI st 21 2 then (some (true, st)) else (gd (inB (gI st 21 2) 120) (if gI st 22 (gI st 21 2).toNatClampNeg = (124 : Int32) then (bnd (sI st 21 2 ((gI st 21 2) + (1 : Int32))) (fun st7 => (fX5_readBothg rc_readEither rc_readOperand n st7 v1).bind (fun r9 => if bI r9.1 = 0 then (some (false, r9.2)) else ((fX5_add r9.2 (-7 : Int32)).bind (fun r12 => fX5_readEitherg_10 rc_readEither rc_readOperand n k r12 v1))))) else (some (true, st))))
set_option maxHeartbeats 4000000 in
theorem tX5_readEitherg_10 {p : Program} {l : Launch} {e : Env} {s : State} {m : MethodId} {args : Array Value} {below : List Frame} {meth : Method} {c : Code} {X : WX} (C : Amb 65 X p s m args meth c cX5_readEither 2 RX5) (hr : meth.sig.returnType = some .boolean) {R : Bool × St} {n : Nat} {FB LB RF RL : Nat} (hRF : FB + 7 ≤ RF) (hRL : LB + 155 ≤ RL) {rc_readEither : Nat → St → Int32 → Option (Bool × St)} (hr_readEither : ∀ (n : Nat) (st : St) (a1 : Int32) (R : Bool × St), rc_readEither n st a1 = some R → CtI l yX5_readEither cX5_readEither 2 .boolean ({ frames := FB, cells := 0, slots := 0, locals := LB }) EC 65 X [.ref (xq X 21), .int a1] st (bI R.1) R.2) {rc_readOperand : Nat → St → Int32 → Option (Bool × St)} (hr_readOperand : ∀ (n : Nat) (st : St) (a1 : Int32) (R : Bool × St), rc_readOperand n st a1 = some R → CtI l yX5_readOperand cX5_readOperand 4 .boolean ({ frames := FB, cells := 0, slots := 0, locals := LB }) EC 65 X [.ref (xq X 21), .int a1] st (bI R.1) R.2) : ∀ (k : Nat) (st : St) (v1 : Int32) (H : Heap) (locs : List Loc) (ls : Array Slot), Wd EC 65 X s.heap st H locs → lv_has ls 2 [(0, .ref (xq X 21)), (1, .int v1)] → fX5_readEitherg_10 rc_readEither rc_readOperand n k st v1 = some R → W p l e { frames := RF, cells := 0, slots := 0, locals := RL } s m args below meth c H locs 0 0 (QI EC 65 X (bI R.1) R.2 below args s) (F0 m 10 ls []) := by
  obtain ⟨hx, hb, hml, hown, hts⟩ := id C.1
  intro k
  induction k with
  | zero => intro st v1 H locs ls  hw hl hf; exact absurd (show none = some R from hf) (fun z => by cases z)
  | succ k ih =>
    intro st v1 H locs ls  hw hl hf
    rw [fX5_readEitherg_10] at hf
    refine lv_aload_n hx hb dX5_readEither_10 rfl (lv_at hl 0 rfl) ?_
    refine w_get (T := TX5) C hw (by decide) 2 kf_X5_27 (EC_21 X _ _) rfl inA5 (by decide) rfl dX5_readEither_11 ?_
    refine lv_aload_n hx hb dX5_readEither_14 rfl (lv_at hl 0 rfl) ?_
    refine w_get (T := TX5) C hw (by decide) 1 kf_X5_16 (EC_21 X _ _) rfl inA5 (by decide) rfl dX5_readEither_15 ?_
    refine lv_icmp_ge (tgt := 64) hx hb dX5_readEither_18 (by decide) (fun c4 => ?_) (fun c4 => ?_)
    · replace hf := ite_t hf c4
      refine lv_iconst (v := 1) hx hb dX5_readEither_64 (by decide) ?_
      exact w_zret (b := true) C hw hr rfl (so2 hf).1 (so2 hf).2 dX5_readEither_65
    · replace hf := ite_f hf c4
      refine lv_aload_n hx hb dX5_readEither_21 rfl (lv_at hl 0 rfl) ?_
      refine w_get (T := TX5) C hw (by decide) 0 kf_X5_9 (EC_21 X _ _) rfl inA5 (by decide) rfl dX5_readEither_22 ?_
      refine lv_aload_n hx hb dX5_readEither_25 rfl (lv_at hl 0 rfl) ?_
      refine w_get (T := TX5) C hw (by decide) 2 kf_X5_27 (EC_21 X _ _) rfl inA5 (by decide) rfl dX5_readEither_26 ?_
      obtain ⟨h5, hf⟩ := gd_some hf
      refine w_iald C hw (by decide) (EC_22 X _ _) h5 rfl dX5_readEither_29 ?_
      refine lv_bipush (v := 124) hx hb dX5_readEither_30 (by decide) ?_
      refine lv_icmp_ne (tgt := 64) hx hb dX5_readEither_32 (by decide) (fun c6 => ?_) (fun c6 => ?_)
      · replace hf := ite_f hf c6
        refine lv_iconst (v := 1) hx hb dX5_readEither_64 (by decide) ?_
        exact w_zret (b := true) C hw hr rfl (so2 hf).1 (so2 hf).2 dX5_readEither_65
      · replace hf := ite_t hf c6
        refine lv_aload_n hx hb dX5_readEither_35 rfl (lv_at hl 0 rfl) ?_
        refine lv_dup hx hb dX5_readEither_36 rfl ?_
        refine w_get (T := TX5) C hw (by decide) 2 kf_X5_27 (EC_21 X _ _) rfl inA5 (by decide) rfl dX5_readEither_37 ?_
        refine lv_iconst (v := 1) hx hb dX5_readEither_40 (by decide) ?_
        refine lv_iadd hx hb dX5_readEither_41 ?_
        obtain ⟨st7, es8⟩ : ∃ z : St, z = sI st 21 2 ((gI st 21 2) + (1 : Int32)) := ⟨_, rfl⟩
        replace hf := bnd_nm hf es8
        refine w_puti (T := TX5) C hw (by decide) 2 kf_X5_27 (EC_21 X _ _) rfl inA5 tyX5_ok nmX5 (by decide) rfl rfl (Nat.le_of_ble_eq_true rfl) rfl dX5_readEither_42 (fun H locs hw => ?_)
        rw [← es8] at hw
        refine lv_aload_n hx hb dX5_readEither_45 rfl (lv_at hl 0 rfl) ?_
        refine lv_iload_n hx hb dX5_readEither_46 rfl (lv_at hl 1 rfl) ?_
        obtain ⟨r9, k10, hf⟩ := bd_some hf
        refine w_goI hw (w_runV (rest := []) C hw (zX5_readBothg _ _ (Nat.le_refl _) (Nat.le_refl _) hr_readEither hr_readOperand n st7 v1 r9 k10) (by decide) (EC_21 X _ _) rfl km_X5_42 ki_yX5_readBoth kv_X5_readBoth kz_X5 kc_X5_readBoth rfl ok_yX5_readBoth ⟨by dsimp only; omega, by dsimp only; omega⟩ rfl rfl rfl rfl hl.1 (Nat.le_of_ble_eq_true rfl) dX5_readEither_47 ⟨Nat.zero_le _, Nat.zero_le _⟩) (fun H locs hw => ?_)
        refine lv_if_ne (tgt := 55) hx hb dX5_readEither_50 (by decide) (fun c11 => ?_) (fun c11 => ?_)
        · replace hf := ite_f hf c11
          refine lv_aload_n hx hb dX5_readEither_55 rfl (lv_at hl 0 rfl) ?_
          refine lv_bipush (v := -7) hx hb dX5_readEither_56 (by decide) ?_
          obtain ⟨r12, k13, hf⟩ := bd_some hf
          refine w_goV hw (w_runV (rest := []) C hw (zX5_add _ _ r9.2 (-7 : Int32) r12 k13) (by decide) (EC_21 X _ _) rfl km_X5_38 ki_yX5_add kv_X5_add kz_X5 kc_X5_add rfl ok_yX5_add ⟨by dsimp only; omega, by dsimp only; omega⟩ rfl rfl rfl rfl hl.1 (Nat.le_of_ble_eq_true rfl) dX5_readEither_58 ⟨Nat.zero_le _, Nat.zero_le _⟩) (fun H locs hw => ?_)
          refine lv_goto (tgt := 10) hx hb dX5_readEither_61 (by decide) ?_
          exact ih r12 v1 _ _ _ hw (lv_sub hl [0, 1] rfl) hf
        · replace hf := ite_t hf c11
          refine lv_iconst (v := 0) hx hb dX5_readEither_53 (by decide) ?_
          exact w_zret (b := false) C hw hr rfl (so2 hf).1 (so2 hf).2 dX5_readEither_54
def fX5_readEitherg (rc_readEither : Nat → St → Int32 → Option (Bool × St)) (rc_readOperand : Nat → St → Int32 → Option (Bool × St)) (n : Nat) (st : St) (a1 : Int32) : Option (Bool × St) := (fX5_readBothg rc_readEither rc_readOperand n st a1).bind (fun r1 => if bI r1.1 = 0 then (some (false, r1.2)) else (fX5_readEitherg_10 rc_readEither rc_readOperand n n r1.2 a1))
set_option maxHeartbeats 4000000 in
theorem zX5_readEitherg (l : Launch) (X : WX) {FB LB RF RL : Nat} (hRF : FB + 7 ≤ RF) (hRL : LB + 155 ≤ RL) {rc_readEither : Nat → St → Int32 → Option (Bool × St)} (hr_readEither : ∀ (n : Nat) (st : St) (a1 : Int32) (R : Bool × St), rc_readEither n st a1 = some R → CtI l yX5_readEither cX5_readEither 2 .boolean ({ frames := FB, cells := 0, slots := 0, locals := LB }) EC 65 X [.ref (xq X 21), .int a1] st (bI R.1) R.2) {rc_readOperand : Nat → St → Int32 → Option (Bool × St)} (hr_readOperand : ∀ (n : Nat) (st : St) (a1 : Int32) (R : Bool × St), rc_readOperand n st a1 = some R → CtI l yX5_readOperand cX5_readOperand 4 .boolean ({ frames := FB, cells := 0, slots := 0, locals := LB }) EC 65 X [.ref (xq X 21), .int a1] st (bI R.1) R.2) (n : Nat) (st : St) (a1 : Int32) (R : Bool × St) (hf : fX5_readEitherg rc_readEither rc_readOperand n st a1 = some R) : CtI l yX5_readEither cX5_readEither 2 .boolean ({ frames := RF, cells := 0, slots := 0, locals := RL }) EC 65 X [.ref (xq X 21), .int a1] st (bI R.1) R.2 := by
  refine ct_in (own := RX5) (by decide +kernel) rfl (Nat.le_of_ble_eq_true rfl) (fun p e s m below meth c C hr hw ls hl => ?_)
  obtain ⟨hx, hb, hml, hown, hts⟩ := id C.1
  have hl : lv_has ls 2 [(0, .ref (xq X 21)), (1, .int a1)] := hl
  unfold fX5_readEitherg at hf
  refine lv_aload_n hx hb dX5_readEither_0 rfl (lv_at hl 0 rfl) ?_
  refine lv_iload_n hx hb dX5_readEither_1 rfl (lv_at hl 1 rfl) ?_
  obtain ⟨r1, k2, hf⟩ := bd_some hf
  refine w_goI hw (w_runV (rest := []) C hw (zX5_readBothg _ _ (Nat.le_refl _) (Nat.le_refl _) hr_readEither hr_readOperand n st a1 r1 k2) (by decide) (EC_21 X _ _) rfl km_X5_42 ki_yX5_readBoth kv_X5_readBoth kz_X5 kc_X5_readBoth rfl ok_yX5_readBoth ⟨by dsimp only; omega, by dsimp only; omega⟩ rfl rfl rfl rfl hl.1 (Nat.le_of_ble_eq_true rfl) dX5_readEither_2 ⟨Nat.zero_le _, Nat.zero_le _⟩) (fun H locs hw => ?_)
  refine lv_if_ne (tgt := 10) hx hb dX5_readEither_5 (by decide) (fun c3 => ?_) (fun c3 => ?_)
  · replace hf := ite_f hf c3
    exact tX5_readEitherg_10 C hr hRF hRL hr_readEither hr_readOperand n r1.2 a1 _ _ _ hw (lv_sub hl [0, 1] rfl) hf
  · replace hf := ite_t hf c3
    refine lv_iconst (v := 0) hx hb dX5_readEither_8 (by decide) ?_
    exact w_zret (b := false) C hw hr rfl (so2 hf).1 (so2 hf).2 dX5_readEither_9
def grX5 : Nat → (Nat → St → Int32 → Option (Bool × St)) × (Nat → St → Int32 → Option (Bool × St))
  | 0 => ((fun _ _ _ => none), (fun _ _ _ => none))
  | d + 1 => ((fX5_readEitherg (grX5 d).1 (grX5 d).2), (fX5_readOperandg (grX5 d).1 (grX5 d).2))
set_option maxHeartbeats 4000000 in
theorem grX5_ok (l : Launch) (X : WX) (d : Nat) : (∀ (n : Nat) (st : St) (a1 : Int32) (R : Bool × St), (grX5 d).1 n st a1 = some R → CtI l yX5_readEither cX5_readEither 2 .boolean ({ frames := d * 7, cells := 0, slots := 0, locals := d * 155 }) EC 65 X [.ref (xq X 21), .int a1] st (bI R.1) R.2) ∧ (∀ (n : Nat) (st : St) (a1 : Int32) (R : Bool × St), (grX5 d).2 n st a1 = some R → CtI l yX5_readOperand cX5_readOperand 4 .boolean ({ frames := d * 7, cells := 0, slots := 0, locals := d * 155 }) EC 65 X [.ref (xq X 21), .int a1] st (bI R.1) R.2) := by
  induction d with
  | zero => exact ⟨fun _ _ _ _ h => absurd (show none = some _ from h) (fun z => by cases z), fun _ _ _ _ h => absurd (show none = some _ from h) (fun z => by cases z)⟩
  | succ d ih =>
    exact ⟨fun n st b0 R h => zX5_readEitherg l X (RF := (d + 1) * 7) (RL := (d + 1) * 155) (FB := d * 7) (LB := d * 155) (by omega) (by omega) ih.1 ih.2 n st b0 R h, fun n st b0 R h => zX5_readOperandg l X (RF := (d + 1) * 7) (RL := (d + 1) * 155) (FB := d * 7) (LB := d * 155) (by omega) (by omega) ih.1 ih.2 n st b0 R h⟩
def fX5_readOpened (n : Nat) (st : St) (a1 : Int32) (a2 : Int32) : Option (Bool × St) := fX5_readOpenedg (grX5 8).1 (grX5 8).2 n st a1 a2
theorem zX5_readOpened (l : Launch) (X : WX) (n : Nat) (st : St) (a1 : Int32) (a2 : Int32) (R : Bool × St) (hf : fX5_readOpened n st a1 a2 = some R) : CtI l yX5_readOpened cX5_readOpened 3 .boolean ({ frames := 57, cells := 0, slots := 0, locals := 1263 }) EC 65 X [.ref (xq X 21), .int a1, .int a2] st (bI R.1) R.2 := zX5_readOpenedg l X (FB := 8 * 7) (LB := 8 * 155) (Nat.le_of_ble_eq_true rfl) (Nat.le_of_ble_eq_true rfl) (grX5_ok l X 8).1 (grX5_ok l X 8).2 n st a1 a2 R hf
def fX5_readOperand (n : Nat) (st : St) (a1 : Int32) : Option (Bool × St) := fX5_readOperandg (grX5 8).1 (grX5 8).2 n st a1
theorem zX5_readOperand (l : Launch) (X : WX) (n : Nat) (st : St) (a1 : Int32) (R : Bool × St) (hf : fX5_readOperand n st a1 = some R) : CtI l yX5_readOperand cX5_readOperand 4 .boolean ({ frames := 58, cells := 0, slots := 0, locals := 1285 }) EC 65 X [.ref (xq X 21), .int a1] st (bI R.1) R.2 := zX5_readOperandg l X (FB := 8 * 7) (LB := 8 * 155) (Nat.le_of_ble_eq_true rfl) (Nat.le_of_ble_eq_true rfl) (grX5_ok l X 8).1 (grX5_ok l X 8).2 n st a1 R hf
def fX5_readProduct (n : Nat) (st : St) (a1 : Int32) : Option (Bool × St) := fX5_readProductg (grX5 8).1 (grX5 8).2 n st a1
theorem zX5_readProduct (l : Launch) (X : WX) (n : Nat) (st : St) (a1 : Int32) (R : Bool × St) (hf : fX5_readProduct n st a1 = some R) : CtI l yX5_readProduct cX5_readProduct 3 .boolean ({ frames := 59, cells := 0, slots := 0, locals := 1308 }) EC 65 X [.ref (xq X 21), .int a1] st (bI R.1) R.2 := zX5_readProductg l X (FB := 8 * 7) (LB := 8 * 155) (Nat.le_of_ble_eq_true rfl) (Nat.le_of_ble_eq_true rfl) (grX5_ok l X 8).1 (grX5_ok l X 8).2 n st a1 R hf
def fX5_readSum (n : Nat) (st : St) (a1 : Int32) : Option (Bool × St) := fX5_readSumg (grX5 8).1 (grX5 8).2 n st a1
theorem zX5_readSum (l : Launch) (X : WX) (n : Nat) (st : St) (a1 : Int32) (R : Bool × St) (hf : fX5_readSum n st a1 = some R) : CtI l yX5_readSum cX5_readSum 3 .boolean ({ frames := 60, cells := 0, slots := 0, locals := 1330 }) EC 65 X [.ref (xq X 21), .int a1] st (bI R.1) R.2 := zX5_readSumg l X (FB := 8 * 7) (LB := 8 * 155) (Nat.le_of_ble_eq_true rfl) (Nat.le_of_ble_eq_true rfl) (grX5_ok l X 8).1 (grX5_ok l X 8).2 n st a1 R hf
def fX5_readCompared (n : Nat) (st : St) (a1 : Int32) : Option (Bool × St) := fX5_readComparedg (grX5 8).1 (grX5 8).2 n st a1
theorem zX5_readCompared (l : Launch) (X : WX) (n : Nat) (st : St) (a1 : Int32) (R : Bool × St) (hf : fX5_readCompared n st a1 = some R) : CtI l yX5_readCompared cX5_readCompared 3 .boolean ({ frames := 61, cells := 0, slots := 0, locals := 1352 }) EC 65 X [.ref (xq X 21), .int a1] st (bI R.1) R.2 := zX5_readComparedg l X (FB := 8 * 7) (LB := 8 * 155) (Nat.le_of_ble_eq_true rfl) (Nat.le_of_ble_eq_true rfl) (grX5_ok l X 8).1 (grX5_ok l X 8).2 n st a1 R hf
def fX5_readBoth (n : Nat) (st : St) (a1 : Int32) : Option (Bool × St) := fX5_readBothg (grX5 8).1 (grX5 8).2 n st a1
theorem zX5_readBoth (l : Launch) (X : WX) (n : Nat) (st : St) (a1 : Int32) (R : Bool × St) (hf : fX5_readBoth n st a1 = some R) : CtI l yX5_readBoth cX5_readBoth 2 .boolean ({ frames := 62, cells := 0, slots := 0, locals := 1374 }) EC 65 X [.ref (xq X 21), .int a1] st (bI R.1) R.2 := zX5_readBothg l X (FB := 8 * 7) (LB := 8 * 155) (Nat.le_of_ble_eq_true rfl) (Nat.le_of_ble_eq_true rfl) (grX5_ok l X 8).1 (grX5_ok l X 8).2 n st a1 R hf
def fX5_readEither (n : Nat) (st : St) (a1 : Int32) : Option (Bool × St) := fX5_readEitherg (grX5 8).1 (grX5 8).2 n st a1
theorem zX5_readEither (l : Launch) (X : WX) (n : Nat) (st : St) (a1 : Int32) (R : Bool × St) (hf : fX5_readEither n st a1 = some R) : CtI l yX5_readEither cX5_readEither 2 .boolean ({ frames := 63, cells := 0, slots := 0, locals := 1395 }) EC 65 X [.ref (xq X 21), .int a1] st (bI R.1) R.2 := zX5_readEitherg l X (FB := 8 * 7) (LB := 8 * 155) (Nat.le_of_ble_eq_true rfl) (Nat.le_of_ble_eq_true rfl) (grX5_ok l X 8).1 (grX5_ok l X 8).2 n st a1 R hf
theorem dX5_readLine_0 : decode cX5_readLine 0 = .ok (.aload_n 0, 1) := by decide +kernel
theorem dX5_readLine_1 : decode cX5_readLine 1 = .ok (.iconst 0, 1) := by decide +kernel
theorem dX5_readLine_2 : decode cX5_readLine 2 = .ok (.invokevirtual 34, 3) := by decide +kernel
theorem dX5_readLine_5 : decode cX5_readLine 5 = .ok (.ifCond .ne 5, 3) := by decide +kernel
theorem dX5_readLine_8 : decode cX5_readLine 8 = .ok (.iconst 0, 1) := by decide +kernel
theorem dX5_readLine_9 : decode cX5_readLine 9 = .ok (.ireturn, 1) := by decide +kernel
theorem dX5_readLine_10 : decode cX5_readLine 10 = .ok (.aload_n 0, 1) := by decide +kernel
theorem dX5_readLine_11 : decode cX5_readLine 11 = .ok (.getfield 27, 3) := by decide +kernel
theorem dX5_readLine_14 : decode cX5_readLine 14 = .ok (.aload_n 0, 1) := by decide +kernel
theorem dX5_readLine_15 : decode cX5_readLine 15 = .ok (.getfield 16, 3) := by decide +kernel
theorem dX5_readLine_18 : decode cX5_readLine 18 = .ok (.if_icmp .ge 43, 3) := by decide +kernel
theorem dX5_readLine_21 : decode cX5_readLine 21 = .ok (.aload_n 0, 1) := by decide +kernel
theorem dX5_readLine_22 : decode cX5_readLine 22 = .ok (.getfield 9, 3) := by decide +kernel
theorem dX5_readLine_25 : decode cX5_readLine 25 = .ok (.aload_n 0, 1) := by decide +kernel
theorem dX5_readLine_26 : decode cX5_readLine 26 = .ok (.getfield 27, 3) := by decide +kernel
theorem dX5_readLine_29 : decode cX5_readLine 29 = .ok (.iaload, 1) := by decide +kernel
theorem dX5_readLine_30 : decode cX5_readLine 30 = .ok (.bipush 63, 2) := by decide +kernel
theorem dX5_readLine_32 : decode cX5_readLine 32 = .ok (.if_icmp .ne 29, 3) := by decide +kernel
theorem dX5_readLine_35 : decode cX5_readLine 35 = .ok (.aload_n 0, 1) := by decide +kernel
theorem dX5_readLine_36 : decode cX5_readLine 36 = .ok (.dup, 1) := by decide +kernel
theorem dX5_readLine_37 : decode cX5_readLine 37 = .ok (.getfield 27, 3) := by decide +kernel
theorem dX5_readLine_40 : decode cX5_readLine 40 = .ok (.iconst 1, 1) := by decide +kernel
theorem dX5_readLine_41 : decode cX5_readLine 41 = .ok (.iadd, 1) := by decide +kernel
theorem dX5_readLine_42 : decode cX5_readLine 42 = .ok (.putfield 27, 3) := by decide +kernel
theorem dX5_readLine_45 : decode cX5_readLine 45 = .ok (.aload_n 0, 1) := by decide +kernel
theorem dX5_readLine_46 : decode cX5_readLine 46 = .ok (.bipush (-19), 2) := by decide +kernel
theorem dX5_readLine_48 : decode cX5_readLine 48 = .ok (.invokevirtual 38, 3) := by decide +kernel
theorem dX5_readLine_51 : decode cX5_readLine 51 = .ok (.aload_n 0, 1) := by decide +kernel
theorem dX5_readLine_52 : decode cX5_readLine 52 = .ok (.iconst 0, 1) := by decide +kernel
theorem dX5_readLine_53 : decode cX5_readLine 53 = .ok (.invokevirtual 34, 3) := by decide +kernel
theorem dX5_readLine_56 : decode cX5_readLine 56 = .ok (.ifCond .ne 5, 3) := by decide +kernel
theorem dX5_readLine_59 : decode cX5_readLine 59 = .ok (.iconst 0, 1) := by decide +kernel
theorem dX5_readLine_60 : decode cX5_readLine 60 = .ok (.ireturn, 1) := by decide +kernel
theorem dX5_readLine_61 : decode cX5_readLine 61 = .ok (.aload_n 0, 1) := by decide +kernel
theorem dX5_readLine_62 : decode cX5_readLine 62 = .ok (.bipush (-20), 2) := by decide +kernel
theorem dX5_readLine_64 : decode cX5_readLine 64 = .ok (.invokevirtual 38, 3) := by decide +kernel
theorem dX5_readLine_67 : decode cX5_readLine 67 = .ok (.iconst 1, 1) := by decide +kernel
theorem dX5_readLine_68 : decode cX5_readLine 68 = .ok (.ireturn, 1) := by decide +kernel
theorem ok_yX5_readLine : yOk yX5_readLine 0 := ⟨by decide +kernel, by decide +kernel, by decide +kernel⟩
def fX5_readLine (n : Nat) (st : St) : Option (Bool × St) := (fX5_readEither n st (0 : Int32)).bind (fun r1 => if bI r1.1 = 0 then (some (false, r1.2)) else (if gI r1.2 21 1 ≤ gI r1.2 21 2 then ((fX5_add r1.2 (-20 : Int32)).bind (fun r5 => some (true, r5))) else (gd (inB (gI r1.2 21 2) 120) (if gI r1.2 22 (gI r1.2 21 2).toNatClampNeg = (63 : Int32) then (bnd (sI r1.2 21 2 ((gI r1.2 21 2) + (1 : Int32))) (fun st11 => (fX5_add st11 (-19 : Int32)).bind (fun r13 => (fX5_readEither n r13 (0 : Int32)).bind (fun r15 => if bI r15.1 = 0 then (some (false, r15.2)) else ((fX5_add r15.2 (-20 : Int32)).bind (fun r18 => some (true, r18))))))) else ((fX5_add r1.2 (-20 : Int32)).bind (fun r9 => some (true, r9)))))))
set_option maxHeartbeats 4000000 in
theorem zX5_readLine (l : Launch) (X : WX) (n : Nat) (st : St)  (R : Bool × St) (hf : fX5_readLine n st = some R) : CtI l yX5_readLine cX5_readLine 1 .boolean ({ frames := 64, cells := 0, slots := 0, locals := 1416 }) EC 65 X [.ref (xq X 21)] st (bI R.1) R.2 := by
  refine ct_in (own := RX5) (by decide +kernel) rfl (Nat.le_of_ble_eq_true rfl) (fun p e s m below meth c C hr hw ls hl => ?_)
  obtain ⟨hx, hb, hml, hown, hts⟩ := id C.1
  have hl : lv_has ls 1 [(0, .ref (xq X 21))] := hl
  unfold fX5_readLine at hf
  refine lv_aload_n hx hb dX5_readLine_0 rfl (lv_at hl 0 rfl) ?_
  refine lv_iconst (v := 0) hx hb dX5_readLine_1 (by decide) ?_
  obtain ⟨r1, k2, hf⟩ := bd_some hf
  refine w_goI hw (w_runV (rest := []) C hw (zX5_readEither _ _ n st (0 : Int32) r1 k2) (by decide) (EC_21 X _ _) rfl km_X5_34 ki_yX5_readEither kv_X5_readEither kz_X5 kc_X5_readEither rfl ok_yX5_readEither ⟨Nat.le_of_ble_eq_true rfl, Nat.le_of_ble_eq_true rfl⟩ rfl rfl rfl rfl hl.1 (Nat.le_of_ble_eq_true rfl) dX5_readLine_2 ⟨Nat.zero_le _, Nat.zero_le _⟩) (fun H locs hw => ?_)
  refine lv_if_ne (tgt := 10) hx hb dX5_readLine_5 (by decide) (fun c3 => ?_) (fun c3 => ?_)
  · replace hf := ite_f hf c3
    refine lv_aload_n hx hb dX5_readLine_10 rfl (lv_at hl 0 rfl) ?_
    refine w_get (T := TX5) C hw (by decide) 2 kf_X5_27 (EC_21 X _ _) rfl inA5 (by decide) rfl dX5_readLine_11 ?_
    refine lv_aload_n hx hb dX5_readLine_14 rfl (lv_at hl 0 rfl) ?_
    refine w_get (T := TX5) C hw (by decide) 1 kf_X5_16 (EC_21 X _ _) rfl inA5 (by decide) rfl dX5_readLine_15 ?_
    refine lv_icmp_ge (tgt := 61) hx hb dX5_readLine_18 (by decide) (fun c4 => ?_) (fun c4 => ?_)
    · replace hf := ite_t hf c4
      refine lv_aload_n hx hb dX5_readLine_61 rfl (lv_at hl 0 rfl) ?_
      refine lv_bipush (v := -20) hx hb dX5_readLine_62 (by decide) ?_
      obtain ⟨r5, k6, hf⟩ := bd_some hf
      refine w_goV hw (w_runV (rest := []) C hw (zX5_add _ _ r1.2 (-20 : Int32) r5 k6) (by decide) (EC_21 X _ _) rfl km_X5_38 ki_yX5_add kv_X5_add kz_X5 kc_X5_add rfl ok_yX5_add ⟨Nat.le_of_ble_eq_true rfl, Nat.le_of_ble_eq_true rfl⟩ rfl rfl rfl rfl hl.1 (Nat.le_of_ble_eq_true rfl) dX5_readLine_64 ⟨Nat.zero_le _, Nat.zero_le _⟩) (fun H locs hw => ?_)
      refine lv_iconst (v := 1) hx hb dX5_readLine_67 (by decide) ?_
      exact w_zret (b := true) C hw hr rfl (so2 hf).1 (so2 hf).2 dX5_readLine_68
    · replace hf := ite_f hf c4
      refine lv_aload_n hx hb dX5_readLine_21 rfl (lv_at hl 0 rfl) ?_
      refine w_get (T := TX5) C hw (by decide) 0 kf_X5_9 (EC_21 X _ _) rfl inA5 (by decide) rfl dX5_readLine_22 ?_
      refine lv_aload_n hx hb dX5_readLine_25 rfl (lv_at hl 0 rfl) ?_
      refine w_get (T := TX5) C hw (by decide) 2 kf_X5_27 (EC_21 X _ _) rfl inA5 (by decide) rfl dX5_readLine_26 ?_
      obtain ⟨h7, hf⟩ := gd_some hf
      refine w_iald C hw (by decide) (EC_22 X _ _) h7 rfl dX5_readLine_29 ?_
      refine lv_bipush (v := 63) hx hb dX5_readLine_30 (by decide) ?_
      refine lv_icmp_ne (tgt := 61) hx hb dX5_readLine_32 (by decide) (fun c8 => ?_) (fun c8 => ?_)
      · replace hf := ite_f hf c8
        refine lv_aload_n hx hb dX5_readLine_61 rfl (lv_at hl 0 rfl) ?_
        refine lv_bipush (v := -20) hx hb dX5_readLine_62 (by decide) ?_
        obtain ⟨r9, k10, hf⟩ := bd_some hf
        refine w_goV hw (w_runV (rest := []) C hw (zX5_add _ _ r1.2 (-20 : Int32) r9 k10) (by decide) (EC_21 X _ _) rfl km_X5_38 ki_yX5_add kv_X5_add kz_X5 kc_X5_add rfl ok_yX5_add ⟨Nat.le_of_ble_eq_true rfl, Nat.le_of_ble_eq_true rfl⟩ rfl rfl rfl rfl hl.1 (Nat.le_of_ble_eq_true rfl) dX5_readLine_64 ⟨Nat.zero_le _, Nat.zero_le _⟩) (fun H locs hw => ?_)
        refine lv_iconst (v := 1) hx hb dX5_readLine_67 (by decide) ?_
        exact w_zret (b := true) C hw hr rfl (so2 hf).1 (so2 hf).2 dX5_readLine_68
      · replace hf := ite_t hf c8
        refine lv_aload_n hx hb dX5_readLine_35 rfl (lv_at hl 0 rfl) ?_
        refine lv_dup hx hb dX5_readLine_36 rfl ?_
        refine w_get (T := TX5) C hw (by decide) 2 kf_X5_27 (EC_21 X _ _) rfl inA5 (by decide) rfl dX5_readLine_37 ?_
        refine lv_iconst (v := 1) hx hb dX5_readLine_40 (by decide) ?_
        refine lv_iadd hx hb dX5_readLine_41 ?_
        obtain ⟨st11, es12⟩ : ∃ z : St, z = sI r1.2 21 2 ((gI r1.2 21 2) + (1 : Int32)) := ⟨_, rfl⟩
        replace hf := bnd_nm hf es12
        refine w_puti (T := TX5) C hw (by decide) 2 kf_X5_27 (EC_21 X _ _) rfl inA5 tyX5_ok nmX5 (by decide) rfl rfl (Nat.le_of_ble_eq_true rfl) rfl dX5_readLine_42 (fun H locs hw => ?_)
        rw [← es12] at hw
        refine lv_aload_n hx hb dX5_readLine_45 rfl (lv_at hl 0 rfl) ?_
        refine lv_bipush (v := -19) hx hb dX5_readLine_46 (by decide) ?_
        obtain ⟨r13, k14, hf⟩ := bd_some hf
        refine w_goV hw (w_runV (rest := []) C hw (zX5_add _ _ st11 (-19 : Int32) r13 k14) (by decide) (EC_21 X _ _) rfl km_X5_38 ki_yX5_add kv_X5_add kz_X5 kc_X5_add rfl ok_yX5_add ⟨Nat.le_of_ble_eq_true rfl, Nat.le_of_ble_eq_true rfl⟩ rfl rfl rfl rfl hl.1 (Nat.le_of_ble_eq_true rfl) dX5_readLine_48 ⟨Nat.zero_le _, Nat.zero_le _⟩) (fun H locs hw => ?_)
        refine lv_aload_n hx hb dX5_readLine_51 rfl (lv_at hl 0 rfl) ?_
        refine lv_iconst (v := 0) hx hb dX5_readLine_52 (by decide) ?_
        obtain ⟨r15, k16, hf⟩ := bd_some hf
        refine w_goI hw (w_runV (rest := []) C hw (zX5_readEither _ _ n r13 (0 : Int32) r15 k16) (by decide) (EC_21 X _ _) rfl km_X5_34 ki_yX5_readEither kv_X5_readEither kz_X5 kc_X5_readEither rfl ok_yX5_readEither ⟨Nat.le_of_ble_eq_true rfl, Nat.le_of_ble_eq_true rfl⟩ rfl rfl rfl rfl hl.1 (Nat.le_of_ble_eq_true rfl) dX5_readLine_53 ⟨Nat.zero_le _, Nat.zero_le _⟩) (fun H locs hw => ?_)
        refine lv_if_ne (tgt := 61) hx hb dX5_readLine_56 (by decide) (fun c17 => ?_) (fun c17 => ?_)
        · replace hf := ite_f hf c17
          refine lv_aload_n hx hb dX5_readLine_61 rfl (lv_at hl 0 rfl) ?_
          refine lv_bipush (v := -20) hx hb dX5_readLine_62 (by decide) ?_
          obtain ⟨r18, k19, hf⟩ := bd_some hf
          refine w_goV hw (w_runV (rest := []) C hw (zX5_add _ _ r15.2 (-20 : Int32) r18 k19) (by decide) (EC_21 X _ _) rfl km_X5_38 ki_yX5_add kv_X5_add kz_X5 kc_X5_add rfl ok_yX5_add ⟨Nat.le_of_ble_eq_true rfl, Nat.le_of_ble_eq_true rfl⟩ rfl rfl rfl rfl hl.1 (Nat.le_of_ble_eq_true rfl) dX5_readLine_64 ⟨Nat.zero_le _, Nat.zero_le _⟩) (fun H locs hw => ?_)
          refine lv_iconst (v := 1) hx hb dX5_readLine_67 (by decide) ?_
          exact w_zret (b := true) C hw hr rfl (so2 hf).1 (so2 hf).2 dX5_readLine_68
        · replace hf := ite_t hf c17
          refine lv_iconst (v := 0) hx hb dX5_readLine_59 (by decide) ?_
          exact w_zret (b := false) C hw hr rfl (so2 hf).1 (so2 hf).2 dX5_readLine_60
  · replace hf := ite_t hf c3
    refine lv_iconst (v := 0) hx hb dX5_readLine_8 (by decide) ?_
    exact w_zret (b := false) C hw hr rfl (so2 hf).1 (so2 hf).2 dX5_readLine_9
theorem dX5_isText_0 : decode cX5_isText 0 = .ok (.aload_n 0, 1) := by decide +kernel
theorem dX5_isText_1 : decode cX5_isText 1 = .ok (.iconst 0, 1) := by decide +kernel
theorem dX5_isText_2 : decode cX5_isText 2 = .ok (.putfield 27, 3) := by decide +kernel
theorem dX5_isText_5 : decode cX5_isText 5 = .ok (.aload_n 0, 1) := by decide +kernel
theorem dX5_isText_6 : decode cX5_isText 6 = .ok (.iconst 0, 1) := by decide +kernel
theorem dX5_isText_7 : decode cX5_isText 7 = .ok (.putfield 23, 3) := by decide +kernel
theorem dX5_isText_10 : decode cX5_isText 10 = .ok (.aload_n 0, 1) := by decide +kernel
theorem dX5_isText_11 : decode cX5_isText 11 = .ok (.invokevirtual 30, 3) := by decide +kernel
theorem dX5_isText_14 : decode cX5_isText 14 = .ok (.ifCond .ne 5, 3) := by decide +kernel
theorem dX5_isText_17 : decode cX5_isText 17 = .ok (.iconst 0, 1) := by decide +kernel
theorem dX5_isText_18 : decode cX5_isText 18 = .ok (.ireturn, 1) := by decide +kernel
theorem dX5_isText_19 : decode cX5_isText 19 = .ok (.aload_n 0, 1) := by decide +kernel
theorem dX5_isText_20 : decode cX5_isText 20 = .ok (.getfield 27, 3) := by decide +kernel
theorem dX5_isText_23 : decode cX5_isText 23 = .ok (.aload_n 0, 1) := by decide +kernel
theorem dX5_isText_24 : decode cX5_isText 24 = .ok (.getfield 16, 3) := by decide +kernel
theorem dX5_isText_27 : decode cX5_isText 27 = .ok (.if_icmp .ge 36, 3) := by decide +kernel
theorem dX5_isText_30 : decode cX5_isText 30 = .ok (.aload_n 0, 1) := by decide +kernel
theorem dX5_isText_31 : decode cX5_isText 31 = .ok (.getfield 9, 3) := by decide +kernel
theorem dX5_isText_34 : decode cX5_isText 34 = .ok (.aload_n 0, 1) := by decide +kernel
theorem dX5_isText_35 : decode cX5_isText 35 = .ok (.getfield 27, 3) := by decide +kernel
theorem dX5_isText_38 : decode cX5_isText 38 = .ok (.iaload, 1) := by decide +kernel
theorem dX5_isText_39 : decode cX5_isText 39 = .ok (.bipush 59, 2) := by decide +kernel
theorem dX5_isText_41 : decode cX5_isText 41 = .ok (.if_icmp .ne 22, 3) := by decide +kernel
theorem dX5_isText_44 : decode cX5_isText 44 = .ok (.aload_n 0, 1) := by decide +kernel
theorem dX5_isText_45 : decode cX5_isText 45 = .ok (.dup, 1) := by decide +kernel
theorem dX5_isText_46 : decode cX5_isText 46 = .ok (.getfield 27, 3) := by decide +kernel
theorem dX5_isText_49 : decode cX5_isText 49 = .ok (.iconst 1, 1) := by decide +kernel
theorem dX5_isText_50 : decode cX5_isText 50 = .ok (.iadd, 1) := by decide +kernel
theorem dX5_isText_51 : decode cX5_isText 51 = .ok (.putfield 27, 3) := by decide +kernel
theorem dX5_isText_54 : decode cX5_isText 54 = .ok (.aload_n 0, 1) := by decide +kernel
theorem dX5_isText_55 : decode cX5_isText 55 = .ok (.invokevirtual 30, 3) := by decide +kernel
theorem dX5_isText_58 : decode cX5_isText 58 = .ok (.ifCond .ne (-39), 3) := by decide +kernel
theorem dX5_isText_61 : decode cX5_isText 61 = .ok (.iconst 0, 1) := by decide +kernel
theorem dX5_isText_62 : decode cX5_isText 62 = .ok (.ireturn, 1) := by decide +kernel
theorem dX5_isText_63 : decode cX5_isText 63 = .ok (.aload_n 0, 1) := by decide +kernel
theorem dX5_isText_64 : decode cX5_isText 64 = .ok (.getfield 27, 3) := by decide +kernel
theorem dX5_isText_67 : decode cX5_isText 67 = .ok (.aload_n 0, 1) := by decide +kernel
theorem dX5_isText_68 : decode cX5_isText 68 = .ok (.getfield 16, 3) := by decide +kernel
theorem dX5_isText_71 : decode cX5_isText 71 = .ok (.if_icmp .ne 7, 3) := by decide +kernel
theorem dX5_isText_74 : decode cX5_isText 74 = .ok (.iconst 1, 1) := by decide +kernel
theorem dX5_isText_75 : decode cX5_isText 75 = .ok (.goto 4, 3) := by decide +kernel
theorem dX5_isText_78 : decode cX5_isText 78 = .ok (.iconst 0, 1) := by decide +kernel
theorem dX5_isText_79 : decode cX5_isText 79 = .ok (.ireturn, 1) := by decide +kernel
theorem ok_yX5_isText : yOk yX5_isText 0 := ⟨by decide +kernel, by decide +kernel, by decide +kernel⟩
def fX5_isText_19 (n : Nat) : Nat → St → Option (Bool × St)
  | 0, _ => none
  | k + 1, st => if gI st 21 1 ≤ gI st 21 2 then (if gI st 21 2 = gI st 21 1 then (some (true, st)) else (some (false, st))) else (gd (inB (gI st 21 2) 120) (if gI st 22 (gI st 21 2).toNatClampNeg = (59 : Int32) then (bnd (sI st 21 2 ((gI st 21 2) + (1 : Int32))) (fun st13 => (fX5_readLine n st13).bind (fun r15 => if bI r15.1 = 0 then (some (false, r15.2)) else (fX5_isText_19 n k r15.2)))) else (if gI st 21 2 = gI st 21 1 then (some (true, st)) else (some (false, st)))))
set_option maxHeartbeats 4000000 in
theorem tX5_isText_19 {p : Program} {l : Launch} {e : Env} {s : State} {m : MethodId} {args : Array Value} {below : List Frame} {meth : Method} {c : Code} {X : WX} (C : Amb 65 X p s m args meth c cX5_isText 1 RX5) (hr : meth.sig.returnType = some .boolean) {R : Bool × St} {n : Nat} : ∀ (k : Nat) (st : St) (H : Heap) (locs : List Loc) (ls : Array Slot), Wd EC 65 X s.heap st H locs → lv_has ls 1 [(0, .ref (xq X 21))] → fX5_isText_19 n k st = some R → W p l e { frames := 65, cells := 0, slots := 0, locals := 1436 } s m args below meth c H locs 0 0 (QI EC 65 X (bI R.1) R.2 below args s) (F0 m 19 ls []) := by
  obtain ⟨hx, hb, hml, hown, hts⟩ := id C.1
  intro k
  induction k with
  | zero => intro st H locs ls  hw hl hf; exact absurd (show none = some R from hf) (fun z => by cases z)
  | succ k ih =>
    intro st H locs ls  hw hl hf
    rw [fX5_isText_19] at hf
    refine lv_aload_n hx hb dX5_isText_19 rfl (lv_at hl 0 rfl) ?_
    refine w_get (T := TX5) C hw (by decide) 2 kf_X5_27 (EC_21 X _ _) rfl inA5 (by decide) rfl dX5_isText_20 ?_
    refine lv_aload_n hx hb dX5_isText_23 rfl (lv_at hl 0 rfl) ?_
    refine w_get (T := TX5) C hw (by decide) 1 kf_X5_16 (EC_21 X _ _) rfl inA5 (by decide) rfl dX5_isText_24 ?_
    refine lv_icmp_ge (tgt := 63) hx hb dX5_isText_27 (by decide) (fun c8 => ?_) (fun c8 => ?_)
    · replace hf := ite_t hf c8
      refine lv_aload_n hx hb dX5_isText_63 rfl (lv_at hl 0 rfl) ?_
      refine w_get (T := TX5) C hw (by decide) 2 kf_X5_27 (EC_21 X _ _) rfl inA5 (by decide) rfl dX5_isText_64 ?_
      refine lv_aload_n hx hb dX5_isText_67 rfl (lv_at hl 0 rfl) ?_
      refine w_get (T := TX5) C hw (by decide) 1 kf_X5_16 (EC_21 X _ _) rfl inA5 (by decide) rfl dX5_isText_68 ?_
      refine lv_icmp_ne (tgt := 78) hx hb dX5_isText_71 (by decide) (fun c9 => ?_) (fun c9 => ?_)
      · replace hf := ite_f hf c9
        refine lv_iconst (v := 0) hx hb dX5_isText_78 (by decide) ?_
        exact w_zret (b := false) C hw hr rfl (so2 hf).1 (so2 hf).2 dX5_isText_79
      · replace hf := ite_t hf c9
        refine lv_iconst (v := 1) hx hb dX5_isText_74 (by decide) ?_
        refine lv_goto (tgt := 79) hx hb dX5_isText_75 (by decide) ?_
        exact w_zret (b := true) C hw hr rfl (so2 hf).1 (so2 hf).2 dX5_isText_79
    · replace hf := ite_f hf c8
      refine lv_aload_n hx hb dX5_isText_30 rfl (lv_at hl 0 rfl) ?_
      refine w_get (T := TX5) C hw (by decide) 0 kf_X5_9 (EC_21 X _ _) rfl inA5 (by decide) rfl dX5_isText_31 ?_
      refine lv_aload_n hx hb dX5_isText_34 rfl (lv_at hl 0 rfl) ?_
      refine w_get (T := TX5) C hw (by decide) 2 kf_X5_27 (EC_21 X _ _) rfl inA5 (by decide) rfl dX5_isText_35 ?_
      obtain ⟨h10, hf⟩ := gd_some hf
      refine w_iald C hw (by decide) (EC_22 X _ _) h10 rfl dX5_isText_38 ?_
      refine lv_bipush (v := 59) hx hb dX5_isText_39 (by decide) ?_
      refine lv_icmp_ne (tgt := 63) hx hb dX5_isText_41 (by decide) (fun c11 => ?_) (fun c11 => ?_)
      · replace hf := ite_f hf c11
        refine lv_aload_n hx hb dX5_isText_63 rfl (lv_at hl 0 rfl) ?_
        refine w_get (T := TX5) C hw (by decide) 2 kf_X5_27 (EC_21 X _ _) rfl inA5 (by decide) rfl dX5_isText_64 ?_
        refine lv_aload_n hx hb dX5_isText_67 rfl (lv_at hl 0 rfl) ?_
        refine w_get (T := TX5) C hw (by decide) 1 kf_X5_16 (EC_21 X _ _) rfl inA5 (by decide) rfl dX5_isText_68 ?_
        refine lv_icmp_ne (tgt := 78) hx hb dX5_isText_71 (by decide) (fun c12 => ?_) (fun c12 => ?_)
        · replace hf := ite_f hf c12
          refine lv_iconst (v := 0) hx hb dX5_isText_78 (by decide) ?_
          exact w_zret (b := false) C hw hr rfl (so2 hf).1 (so2 hf).2 dX5_isText_79
        · replace hf := ite_t hf c12
          refine lv_iconst (v := 1) hx hb dX5_isText_74 (by decide) ?_
          refine lv_goto (tgt := 79) hx hb dX5_isText_75 (by decide) ?_
          exact w_zret (b := true) C hw hr rfl (so2 hf).1 (so2 hf).2 dX5_isText_79
      · replace hf := ite_t hf c11
        refine lv_aload_n hx hb dX5_isText_44 rfl (lv_at hl 0 rfl) ?_
        refine lv_dup hx hb dX5_isText_45 rfl ?_
        refine w_get (T := TX5) C hw (by decide) 2 kf_X5_27 (EC_21 X _ _) rfl inA5 (by decide) rfl dX5_isText_46 ?_
        refine lv_iconst (v := 1) hx hb dX5_isText_49 (by decide) ?_
        refine lv_iadd hx hb dX5_isText_50 ?_
        obtain ⟨st13, es14⟩ : ∃ z : St, z = sI st 21 2 ((gI st 21 2) + (1 : Int32)) := ⟨_, rfl⟩
        replace hf := bnd_nm hf es14
        refine w_puti (T := TX5) C hw (by decide) 2 kf_X5_27 (EC_21 X _ _) rfl inA5 tyX5_ok nmX5 (by decide) rfl rfl (Nat.le_of_ble_eq_true rfl) rfl dX5_isText_51 (fun H locs hw => ?_)
        rw [← es14] at hw
        refine lv_aload_n hx hb dX5_isText_54 rfl (lv_at hl 0 rfl) ?_
        obtain ⟨r15, k16, hf⟩ := bd_some hf
        refine w_goI hw (w_runV (rest := []) C hw (zX5_readLine _ _ n st13 r15 k16) (by decide) (EC_21 X _ _) rfl km_X5_30 ki_yX5_readLine kv_X5_readLine kz_X5 kc_X5_readLine rfl ok_yX5_readLine ⟨Nat.le_of_ble_eq_true rfl, Nat.le_of_ble_eq_true rfl⟩ rfl rfl rfl rfl hl.1 (Nat.le_of_ble_eq_true rfl) dX5_isText_55 ⟨Nat.zero_le _, Nat.zero_le _⟩) (fun H locs hw => ?_)
        refine lv_if_ne (tgt := 19) hx hb dX5_isText_58 (by decide) (fun c17 => ?_) (fun c17 => ?_)
        · replace hf := ite_f hf c17
          exact ih r15.2 _ _ _ hw (lv_sub hl [0] rfl) hf
        · replace hf := ite_t hf c17
          refine lv_iconst (v := 0) hx hb dX5_isText_61 (by decide) ?_
          exact w_zret (b := false) C hw hr rfl (so2 hf).1 (so2 hf).2 dX5_isText_62
def fX5_isText (n : Nat) (st : St) : Option (Bool × St) := bnd (sI st 21 2 (0 : Int32)) (fun st1 => bnd (sI st1 21 4 (0 : Int32)) (fun st3 => (fX5_readLine n st3).bind (fun r5 => if bI r5.1 = 0 then (some (false, r5.2)) else (fX5_isText_19 n n r5.2))))
set_option maxHeartbeats 4000000 in
theorem zX5_isText (l : Launch) (X : WX) (n : Nat) (st : St)  (R : Bool × St) (hf : fX5_isText n st = some R) : CtI l yX5_isText cX5_isText 1 .boolean ({ frames := 65, cells := 0, slots := 0, locals := 1436 }) EC 65 X [.ref (xq X 21)] st (bI R.1) R.2 := by
  refine ct_in (own := RX5) (by decide +kernel) rfl (Nat.le_of_ble_eq_true rfl) (fun p e s m below meth c C hr hw ls hl => ?_)
  obtain ⟨hx, hb, hml, hown, hts⟩ := id C.1
  have hl : lv_has ls 1 [(0, .ref (xq X 21))] := hl
  unfold fX5_isText at hf
  refine lv_aload_n hx hb dX5_isText_0 rfl (lv_at hl 0 rfl) ?_
  refine lv_iconst (v := 0) hx hb dX5_isText_1 (by decide) ?_
  obtain ⟨st1, es2⟩ : ∃ z : St, z = sI st 21 2 (0 : Int32) := ⟨_, rfl⟩
  replace hf := bnd_nm hf es2
  refine w_puti (T := TX5) C hw (by decide) 2 kf_X5_27 (EC_21 X _ _) rfl inA5 tyX5_ok nmX5 (by decide) rfl rfl (Nat.le_of_ble_eq_true rfl) rfl dX5_isText_2 (fun H locs hw => ?_)
  rw [← es2] at hw
  refine lv_aload_n hx hb dX5_isText_5 rfl (lv_at hl 0 rfl) ?_
  refine lv_iconst (v := 0) hx hb dX5_isText_6 (by decide) ?_
  obtain ⟨st3, es4⟩ : ∃ z : St, z = sI st1 21 4 (0 : Int32) := ⟨_, rfl⟩
  replace hf := bnd_nm hf es4
  refine w_puti (T := TX5) C hw (by decide) 4 kf_X5_23 (EC_21 X _ _) rfl inA5 tyX5_ok nmX5 (by decide) rfl rfl (Nat.le_of_ble_eq_true rfl) rfl dX5_isText_7 (fun H locs hw => ?_)
  rw [← es4] at hw
  refine lv_aload_n hx hb dX5_isText_10 rfl (lv_at hl 0 rfl) ?_
  obtain ⟨r5, k6, hf⟩ := bd_some hf
  refine w_goI hw (w_runV (rest := []) C hw (zX5_readLine _ _ n st3 r5 k6) (by decide) (EC_21 X _ _) rfl km_X5_30 ki_yX5_readLine kv_X5_readLine kz_X5 kc_X5_readLine rfl ok_yX5_readLine ⟨Nat.le_of_ble_eq_true rfl, Nat.le_of_ble_eq_true rfl⟩ rfl rfl rfl rfl hl.1 (Nat.le_of_ble_eq_true rfl) dX5_isText_11 ⟨Nat.zero_le _, Nat.zero_le _⟩) (fun H locs hw => ?_)
  refine lv_if_ne (tgt := 19) hx hb dX5_isText_14 (by decide) (fun c7 => ?_) (fun c7 => ?_)
  · replace hf := ite_f hf c7
    exact tX5_isText_19 C hr n r5.2 _ _ _ hw (lv_sub hl [0] rfl) hf
  · replace hf := ite_t hf c7
    refine lv_iconst (v := 0) hx hb dX5_isText_17 (by decide) ?_
    exact w_zret (b := false) C hw hr rfl (so2 hf).1 (so2 hf).2 dX5_isText_18
theorem dX5_handTo_0 : decode cX5_handTo 0 = .ok (.aload_n 1, 1) := by decide +kernel
theorem dX5_handTo_1 : decode cX5_handTo 1 = .ok (.getfield 20, 3) := by decide +kernel
theorem dX5_handTo_4 : decode cX5_handTo 4 = .ok (.astore_n 2, 1) := by decide +kernel
theorem dX5_handTo_5 : decode cX5_handTo 5 = .ok (.aload_n 1, 1) := by decide +kernel
theorem dX5_handTo_6 : decode cX5_handTo 6 = .ok (.aload_n 0, 1) := by decide +kernel
theorem dX5_handTo_7 : decode cX5_handTo 7 = .ok (.getfield 13, 3) := by decide +kernel
theorem dX5_handTo_10 : decode cX5_handTo 10 = .ok (.putfield 20, 3) := by decide +kernel
theorem dX5_handTo_13 : decode cX5_handTo 13 = .ok (.aload_n 1, 1) := by decide +kernel
theorem dX5_handTo_14 : decode cX5_handTo 14 = .ok (.aload_n 0, 1) := by decide +kernel
theorem dX5_handTo_15 : decode cX5_handTo 15 = .ok (.getfield 23, 3) := by decide +kernel
theorem dX5_handTo_18 : decode cX5_handTo 18 = .ok (.putfield 26, 3) := by decide +kernel
theorem dX5_handTo_21 : decode cX5_handTo 21 = .ok (.aload_n 0, 1) := by decide +kernel
theorem dX5_handTo_22 : decode cX5_handTo 22 = .ok (.aload_n 2, 1) := by decide +kernel
theorem dX5_handTo_23 : decode cX5_handTo 23 = .ok (.putfield 13, 3) := by decide +kernel
theorem dX5_handTo_26 : decode cX5_handTo 26 = .ok (.return_, 1) := by decide +kernel
theorem ok_yX5_handTo : yOk yX5_handTo 1 := ⟨by decide +kernel, by decide +kernel, by decide +kernel⟩
def fX5_handTo (st : St) : St := bnd (sI st 17 0 (gI st 21 3)) (fun st1 => bnd (sI st1 17 1 (gI st1 21 4)) (fun st3 => bnd (sI st3 21 3 (gI st 17 0)) (fun st5 => st5)))
set_option maxHeartbeats 4000000 in
theorem zX5_handTo (l : Launch) (X : WX) (st : St)  (R : St) (hf : fX5_handTo st = R) : CtV l yX5_handTo cX5_handTo 3 ({ frames := 0, cells := 0, slots := 0, locals := 0 }) EC 65 X [.ref (xq X 21), .ref (xq X 17)] st R := by
  refine ct_in (own := RX5) (by decide +kernel) rfl (Nat.le_of_ble_eq_true rfl) (fun p e s m below meth c C hr hw ls hl => ?_)
  obtain ⟨hx, hb, hml, hown, hts⟩ := id C.1
  have hl : lv_has ls 3 [(0, .ref (xq X 21)), (1, .ref (xq X 17))] := hl
  unfold fX5_handTo at hf
  refine lv_aload_n hx hb dX5_handTo_0 rfl (lv_at hl 1 rfl) ?_
  refine w_get (T := TX4) C hw (by decide) 0 kf_X5_20 (EC_17 X _ _) rfl inA4 (by decide) rfl dX5_handTo_1 ?_
  refine lv_astore_n (lv' := [(2, .ref (xq X ((gI st 17 0).toNatClampNeg))), (0, .ref (xq X 21)), (1, .ref (xq X 17))]) hx hb dX5_handTo_4 rfl hl (by decide) rfl (fun ls hl => ?_)
  refine lv_aload_n hx hb dX5_handTo_5 rfl (lv_at hl 2 rfl) ?_
  refine lv_aload_n hx hb dX5_handTo_6 rfl (lv_at hl 1 rfl) ?_
  refine w_get (T := TX5) C hw (by decide) 3 kf_X5_13 (EC_21 X _ _) rfl inA5 (by decide) rfl dX5_handTo_7 ?_
  obtain ⟨st1, es2⟩ : ∃ z : St, z = sI st 17 0 (gI st 21 3) := ⟨_, rfl⟩
  replace hf := bnd_nm hf es2
  refine w_put (T := TX4) (st' := sI st 17 0 (gI st 21 3)) C hw (by decide) 0 kf_X5_20 (EC_17 X _ _) rfl inA4 tyX4_ok nmX4 (by decide) rfl rfl rfl rfl (Nat.le_of_ble_eq_true rfl) (by rw [gI_sI]; rfl) (sI_o _ _ _ _) dX5_handTo_10 (fun H locs hw => ?_)
  rw [← es2] at hw
  refine lv_aload_n hx hb dX5_handTo_13 rfl (lv_at hl 2 rfl) ?_
  refine lv_aload_n hx hb dX5_handTo_14 rfl (lv_at hl 1 rfl) ?_
  refine w_get (T := TX5) C hw (by decide) 4 kf_X5_23 (EC_21 X _ _) rfl inA5 (by decide) rfl dX5_handTo_15 ?_
  obtain ⟨st3, es4⟩ : ∃ z : St, z = sI st1 17 1 (gI st1 21 4) := ⟨_, rfl⟩
  replace hf := bnd_nm hf es4
  refine w_puti (T := TX4) C hw (by decide) 1 kf_X5_26 (EC_17 X _ _) rfl inA4 tyX4_ok nmX4 (by decide) rfl rfl (Nat.le_of_ble_eq_true rfl) rfl dX5_handTo_18 (fun H locs hw => ?_)
  rw [← es4] at hw
  refine lv_aload_n hx hb dX5_handTo_21 rfl (lv_at hl 1 rfl) ?_
  refine lv_aload_n hx hb dX5_handTo_22 rfl (lv_at hl 0 rfl) ?_
  obtain ⟨st5, es6⟩ : ∃ z : St, z = sI st3 21 3 (gI st 17 0) := ⟨_, rfl⟩
  replace hf := bnd_nm hf es6
  refine w_put (T := TX5) (st' := sI st3 21 3 (gI st 17 0)) C hw (by decide) 3 kf_X5_13 (EC_21 X _ _) rfl inA5 tyX5_ok nmX5 (by decide) rfl rfl rfl rfl (Nat.le_of_ble_eq_true rfl) (by rw [gI_sI]; rfl) (sI_o _ _ _ _) dX5_handTo_23 (fun H locs hw => ?_)
  rw [← es6] at hw
  exact w_vret C hw hr hf dX5_handTo_26
