theorem dX12_in_0 : decode cX12_in 0 = .ok (.iload_n 0, 1) := by decide +kernel
theorem dX12_in_1 : decode cX12_in 1 = .ok (.iload_n 1, 1) := by decide +kernel
theorem dX12_in_2 : decode cX12_in 2 = .ok (.if_icmp .lt 12, 3) := by decide +kernel
theorem dX12_in_5 : decode cX12_in 5 = .ok (.iload_n 0, 1) := by decide +kernel
theorem dX12_in_6 : decode cX12_in 6 = .ok (.iload_n 2, 1) := by decide +kernel
theorem dX12_in_7 : decode cX12_in 7 = .ok (.if_icmp .gt 7, 3) := by decide +kernel
theorem dX12_in_10 : decode cX12_in 10 = .ok (.iconst 1, 1) := by decide +kernel
theorem dX12_in_11 : decode cX12_in 11 = .ok (.goto 4, 3) := by decide +kernel
theorem dX12_in_14 : decode cX12_in 14 = .ok (.iconst 0, 1) := by decide +kernel
theorem dX12_in_15 : decode cX12_in 15 = .ok (.ireturn, 1) := by decide +kernel
theorem ok_yX12_in : yOk yX12_in 3 := ⟨by decide +kernel, by decide +kernel, by decide +kernel⟩
def fX12_in (a0 : Int32) (a1 : Int32) (a2 : Int32) : Bool := if a0 < a1 then (false) else (if a2 < a0 then (false) else (true))
set_option maxHeartbeats 4000000 in
theorem zX12_in (l : Launch) (X : WX) (st : St) (a0 : Int32) (a1 : Int32) (a2 : Int32) : CtI l yX12_in cX12_in 3 .boolean ({ frames := 0, cells := 0, slots := 0, locals := 0 }) EM 43 X [.int a0, .int a1, .int a2] st (bI (fX12_in a0 a1 a2)) st := by
  generalize hf : fX12_in a0 a1 a2 = R
  refine ct_in (own := RX12) (by decide +kernel) rfl (Nat.le_of_ble_eq_true rfl) (fun p e s m below meth c C hr hw ls hl => ?_)
  obtain ⟨hx, hb, hml, hown, hts⟩ := id C.1
  have hl : lv_has ls 3 [(0, .int a0), (1, .int a1), (2, .int a2)] := hl
  unfold fX12_in at hf
  refine lv_iload_n hx hb dX12_in_0 rfl (lv_at hl 0 rfl) ?_
  refine lv_iload_n hx hb dX12_in_1 rfl (lv_at hl 1 rfl) ?_
  refine lv_icmp_lt (tgt := 14) hx hb dX12_in_2 (by decide) (fun c1 => ?_) (fun c1 => ?_)
  · replace hf := ite_t hf c1
    refine lv_iconst (v := 0) hx hb dX12_in_14 (by decide) ?_
    exact w_zret (b := false) C hw hr rfl hf rfl dX12_in_15
  · replace hf := ite_f hf c1
    refine lv_iload_n hx hb dX12_in_5 rfl (lv_at hl 0 rfl) ?_
    refine lv_iload_n hx hb dX12_in_6 rfl (lv_at hl 2 rfl) ?_
    refine lv_icmp_gt (tgt := 14) hx hb dX12_in_7 (by decide) (fun c2 => ?_) (fun c2 => ?_)
    · replace hf := ite_t hf c2
      refine lv_iconst (v := 0) hx hb dX12_in_14 (by decide) ?_
      exact w_zret (b := false) C hw hr rfl hf rfl dX12_in_15
    · replace hf := ite_f hf c2
      refine lv_iconst (v := 1) hx hb dX12_in_10 (by decide) ?_
      refine lv_goto (tgt := 15) hx hb dX12_in_11 (by decide) ?_
      exact w_zret (b := true) C hw hr rfl hf rfl dX12_in_15
theorem dX12_apart_0 : decode cX12_apart 0 = .ok (.iload_n 0, 1) := by decide +kernel
theorem dX12_apart_1 : decode cX12_apart 1 = .ok (.iload_n 1, 1) := by decide +kernel
theorem dX12_apart_2 : decode cX12_apart 2 = .ok (.if_icmp .ge 9, 3) := by decide +kernel
theorem dX12_apart_5 : decode cX12_apart 5 = .ok (.iload_n 1, 1) := by decide +kernel
theorem dX12_apart_6 : decode cX12_apart 6 = .ok (.iload_n 0, 1) := by decide +kernel
theorem dX12_apart_7 : decode cX12_apart 7 = .ok (.isub, 1) := by decide +kernel
theorem dX12_apart_8 : decode cX12_apart 8 = .ok (.goto 6, 3) := by decide +kernel
theorem dX12_apart_11 : decode cX12_apart 11 = .ok (.iload_n 0, 1) := by decide +kernel
theorem dX12_apart_12 : decode cX12_apart 12 = .ok (.iload_n 1, 1) := by decide +kernel
theorem dX12_apart_13 : decode cX12_apart 13 = .ok (.isub, 1) := by decide +kernel
theorem dX12_apart_14 : decode cX12_apart 14 = .ok (.ireturn, 1) := by decide +kernel
theorem ok_yX12_apart : yOk yX12_apart 2 := ⟨by decide +kernel, by decide +kernel, by decide +kernel⟩
def fX12_apart (a0 : Int32) (a1 : Int32) : Int32 := if a1 ≤ a0 then ((a0 - a1)) else ((a1 - a0))
set_option maxHeartbeats 4000000 in
theorem zX12_apart (l : Launch) (X : WX) (st : St) (a0 : Int32) (a1 : Int32) : CtI l yX12_apart cX12_apart 2 .int ({ frames := 0, cells := 0, slots := 0, locals := 0 }) EM 43 X [.int a0, .int a1] st (fX12_apart a0 a1) st := by
  generalize hf : fX12_apart a0 a1 = R
  refine ct_in (own := RX12) (by decide +kernel) rfl (Nat.le_of_ble_eq_true rfl) (fun p e s m below meth c C hr hw ls hl => ?_)
  obtain ⟨hx, hb, hml, hown, hts⟩ := id C.1
  have hl : lv_has ls 2 [(0, .int a0), (1, .int a1)] := hl
  unfold fX12_apart at hf
  refine lv_iload_n hx hb dX12_apart_0 rfl (lv_at hl 0 rfl) ?_
  refine lv_iload_n hx hb dX12_apart_1 rfl (lv_at hl 1 rfl) ?_
  refine lv_icmp_ge (tgt := 11) hx hb dX12_apart_2 (by decide) (fun c1 => ?_) (fun c1 => ?_)
  · replace hf := ite_t hf c1
    refine lv_iload_n hx hb dX12_apart_11 rfl (lv_at hl 0 rfl) ?_
    refine lv_iload_n hx hb dX12_apart_12 rfl (lv_at hl 1 rfl) ?_
    refine lv_isub hx hb dX12_apart_13 ?_
    exact w_iret C hw hr hf rfl dX12_apart_14
  · replace hf := ite_f hf c1
    refine lv_iload_n hx hb dX12_apart_5 rfl (lv_at hl 1 rfl) ?_
    refine lv_iload_n hx hb dX12_apart_6 rfl (lv_at hl 0 rfl) ?_
    refine lv_isub hx hb dX12_apart_7 ?_
    refine lv_goto (tgt := 14) hx hb dX12_apart_8 (by decide) ?_
    exact w_iret C hw hr hf rfl dX12_apart_14
theorem dX12_bitsOf_0 : decode cX12_bitsOf 0 = .ok (.iconst 0, 1) := by decide +kernel
theorem dX12_bitsOf_1 : decode cX12_bitsOf 1 = .ok (.istore_n 1, 1) := by decide +kernel
theorem dX12_bitsOf_2 : decode cX12_bitsOf 2 = .ok (.iload_n 0, 1) := by decide +kernel
theorem dX12_bitsOf_3 : decode cX12_bitsOf 3 = .ok (.istore_n 2, 1) := by decide +kernel
theorem dX12_bitsOf_4 : decode cX12_bitsOf 4 = .ok (.iload_n 2, 1) := by decide +kernel
theorem dX12_bitsOf_5 : decode cX12_bitsOf 5 = .ok (.ifCond .eq 15, 3) := by decide +kernel
theorem dX12_bitsOf_8 : decode cX12_bitsOf 8 = .ok (.iinc 1 1, 3) := by decide +kernel
theorem dX12_bitsOf_11 : decode cX12_bitsOf 11 = .ok (.iload_n 2, 1) := by decide +kernel
theorem dX12_bitsOf_12 : decode cX12_bitsOf 12 = .ok (.iload_n 2, 1) := by decide +kernel
theorem dX12_bitsOf_13 : decode cX12_bitsOf 13 = .ok (.iconst 1, 1) := by decide +kernel
theorem dX12_bitsOf_14 : decode cX12_bitsOf 14 = .ok (.isub, 1) := by decide +kernel
theorem dX12_bitsOf_15 : decode cX12_bitsOf 15 = .ok (.iand, 1) := by decide +kernel
theorem dX12_bitsOf_16 : decode cX12_bitsOf 16 = .ok (.istore_n 2, 1) := by decide +kernel
theorem dX12_bitsOf_17 : decode cX12_bitsOf 17 = .ok (.goto (-13), 3) := by decide +kernel
theorem dX12_bitsOf_20 : decode cX12_bitsOf 20 = .ok (.iload_n 1, 1) := by decide +kernel
theorem dX12_bitsOf_21 : decode cX12_bitsOf 21 = .ok (.ireturn, 1) := by decide +kernel
theorem ok_yX12_bitsOf : yOk yX12_bitsOf 1 := ⟨by decide +kernel, by decide +kernel, by decide +kernel⟩
def fX12_bitsOf_4 (n : Nat) : Nat → Int32 → Int32 → Option (Int32)
  | 0, _, _ => none
  | k + 1, v1, v2 => if v2 = 0 then (some v1) else (bnd (v1 + (1 : Int32)) (fun x2 => bnd (v2 &&& (v2 - (1 : Int32))) (fun x4 => fX12_bitsOf_4 n k x2 x4)))
set_option maxHeartbeats 4000000 in
theorem tX12_bitsOf_4 {p : Program} {l : Launch} {e : Env} {s : State} {m : MethodId} {args : Array Value} {below : List Frame} {meth : Method} {c : Code} {X : WX} (C : Amb 43 X p s m args meth c cX12_bitsOf 3 RX12) (hr : meth.sig.returnType = some .int) {R : Int32} {n : Nat} {st : St} : ∀ (k : Nat) (v1 : Int32) (v2 : Int32) (H : Heap) (locs : List Loc) (ls : Array Slot), Wd EM 43 X s.heap st H locs → lv_has ls 3 [(1, .int v1), (2, .int v2)] → fX12_bitsOf_4 n k v1 v2 = some R → W p l e { frames := 0, cells := 0, slots := 0, locals := 0 } s m args below meth c H locs 0 0 (QI EM 43 X R st below args s) (F0 m 4 ls []) := by
  obtain ⟨hx, hb, hml, hown, hts⟩ := id C.1
  intro k
  induction k with
  | zero => intro v1 v2 H locs ls  hw hl hf; exact absurd (show none = some R from hf) (fun z => by cases z)
  | succ k ih =>
    intro v1 v2 H locs ls  hw hl hf
    rw [fX12_bitsOf_4] at hf
    refine lv_iload_n hx hb dX12_bitsOf_4 rfl (lv_at hl 1 rfl) ?_
    refine lv_if_eq (tgt := 20) hx hb dX12_bitsOf_5 (by decide) (fun c1 => ?_) (fun c1 => ?_)
    · replace hf := ite_t hf c1
      refine lv_iload_n hx hb dX12_bitsOf_20 rfl (lv_at hl 0 rfl) ?_
      exact w_iret C hw hr (Option.some.inj hf) rfl dX12_bitsOf_21
    · replace hf := ite_f hf c1
      obtain ⟨x2, e3⟩ : ∃ z : Int32, z = v1 + (1 : Int32) := ⟨_, rfl⟩
      replace hf := bnd_nm hf e3
      refine lv_iinc (v := x2) (lv' := [(1, .int x2), (2, .int v2)]) hx hb dX12_bitsOf_8 hl (k := 0) rfl (by rw [e3]; rfl) (by decide) rfl (fun ls hl => ?_)
      refine lv_iload_n hx hb dX12_bitsOf_11 rfl (lv_at hl 1 rfl) ?_
      refine lv_iload_n hx hb dX12_bitsOf_12 rfl (lv_at hl 1 rfl) ?_
      refine lv_iconst (v := 1) hx hb dX12_bitsOf_13 (by decide) ?_
      refine lv_isub hx hb dX12_bitsOf_14 ?_
      refine lv_iand hx hb dX12_bitsOf_15 ?_
      refine lv_topi (fun x4 e5 => ?_)
      replace hf := bnd_nm hf e5
      refine lv_istore_n (lv' := [(2, .int x4), (1, .int x2)]) hx hb dX12_bitsOf_16 rfl hl (by decide) rfl (fun ls hl => ?_)
      refine lv_goto (tgt := 4) hx hb dX12_bitsOf_17 (by decide) ?_
      exact ih x2 x4 _ _ _ hw (lv_sub hl [1, 0] rfl) hf
def fX12_bitsOf (n : Nat) (a0 : Int32) : Option (Int32) := fX12_bitsOf_4 n n (0 : Int32) a0
set_option maxHeartbeats 4000000 in
theorem zX12_bitsOf (l : Launch) (X : WX) (n : Nat) (st : St) (a0 : Int32) (R : Int32) (hf : fX12_bitsOf n a0 = some R) : CtI l yX12_bitsOf cX12_bitsOf 3 .int ({ frames := 0, cells := 0, slots := 0, locals := 0 }) EM 43 X [.int a0] st R st := by
  refine ct_in (own := RX12) (by decide +kernel) rfl (Nat.le_of_ble_eq_true rfl) (fun p e s m below meth c C hr hw ls hl => ?_)
  obtain ⟨hx, hb, hml, hown, hts⟩ := id C.1
  have hl : lv_has ls 3 [(0, .int a0)] := hl
  unfold fX12_bitsOf at hf
  refine lv_iconst (v := 0) hx hb dX12_bitsOf_0 (by decide) ?_
  refine lv_istore_n (lv' := [(1, .int (0 : Int32)), (0, .int a0)]) hx hb dX12_bitsOf_1 rfl hl (by decide) rfl (fun ls hl => ?_)
  refine lv_iload_n hx hb dX12_bitsOf_2 rfl (lv_at hl 1 rfl) ?_
  refine lv_istore_n (lv' := [(2, .int a0), (1, .int (0 : Int32)), (0, .int a0)]) hx hb dX12_bitsOf_3 rfl hl (by decide) rfl (fun ls hl => ?_)
  exact tX12_bitsOf_4 C hr n (0 : Int32) a0 _ _ _ hw (lv_sub hl [1, 0] rfl) hf
theorem dX12_isField_0 : decode cX12_isField 0 = .ok (.iload_n 1, 1) := by decide +kernel
theorem dX12_isField_1 : decode cX12_isField 1 = .ok (.iconst 0, 1) := by decide +kernel
theorem dX12_isField_2 : decode cX12_isField 2 = .ok (.aload_n 0, 1) := by decide +kernel
theorem dX12_isField_3 : decode cX12_isField 3 = .ok (.getfield 144, 3) := by decide +kernel
theorem dX12_isField_6 : decode cX12_isField 6 = .ok (.iconst 1, 1) := by decide +kernel
theorem dX12_isField_7 : decode cX12_isField 7 = .ok (.isub, 1) := by decide +kernel
theorem dX12_isField_8 : decode cX12_isField 8 = .ok (.invokestatic 147, 3) := by decide +kernel
theorem dX12_isField_11 : decode cX12_isField 11 = .ok (.ireturn, 1) := by decide +kernel
theorem ok_yX12_isField : yOk yX12_isField 1 := ⟨by decide +kernel, by decide +kernel, by decide +kernel⟩
def fX12_isField (st : St) (a1 : Int32) : Bool := (fX12_in a1 (0 : Int32) ((gI st 0 1) - (1 : Int32)))
set_option maxHeartbeats 4000000 in
theorem zX12_isField (l : Launch) (X : WX) (st : St) (a1 : Int32) : CtI l yX12_isField cX12_isField 2 .boolean ({ frames := 1, cells := 0, slots := 0, locals := 22 }) EM 43 X [.ref (xq X 0), .int a1] st (bI (fX12_isField st a1)) st := by
  generalize hf : fX12_isField st a1 = R
  refine ct_in (own := RX12) (by decide +kernel) rfl (Nat.le_of_ble_eq_true rfl) (fun p e s m below meth c C hr hw ls hl => ?_)
  obtain ⟨hx, hb, hml, hown, hts⟩ := id C.1
  have hl : lv_has ls 2 [(0, .ref (xq X 0)), (1, .int a1)] := hl
  unfold fX12_isField at hf
  refine lv_iload_n hx hb dX12_isField_0 rfl (lv_at hl 1 rfl) ?_
  refine lv_iconst (v := 0) hx hb dX12_isField_1 (by decide) ?_
  refine lv_aload_n hx hb dX12_isField_2 rfl (lv_at hl 0 rfl) ?_
  refine w_get (T := TX12) C hw (by decide) 1 kf_X12_144 (EM_0 X _ _) rfl inA12 (by decide) rfl dX12_isField_3 ?_
  refine lv_iconst (v := 1) hx hb dX12_isField_6 (by decide) ?_
  refine lv_isub hx hb dX12_isField_7 ?_
  refine w_goI hw (w_runS (rest := []) C hw (zX12_in _ _ st a1 (0 : Int32) ((gI st 0 1) - (1 : Int32))) km_X12_147 kt_yX12_in kz_X12 kc_X12_in ok_yX12_in ⟨Nat.le_of_ble_eq_true rfl, Nat.le_of_ble_eq_true rfl⟩ rfl rfl rfl rfl hl.1 (Nat.le_of_ble_eq_true rfl) dX12_isField_8 ⟨Nat.zero_le _, Nat.zero_le _⟩) (fun H locs hw => ?_)
  exact w_zret (b := (fX12_in a1 (0 : Int32) ((gI st 0 1) - (1 : Int32)))) C hw hr rfl hf rfl dX12_isField_11
theorem dX12_isFall_0 : decode cX12_isFall 0 = .ok (.iload_n 1, 1) := by decide +kernel
theorem dX12_isFall_1 : decode cX12_isFall 1 = .ok (.iconst 0, 1) := by decide +kernel
theorem dX12_isFall_2 : decode cX12_isFall 2 = .ok (.aload_n 0, 1) := by decide +kernel
theorem dX12_isFall_3 : decode cX12_isFall 3 = .ok (.getfield 151, 3) := by decide +kernel
theorem dX12_isFall_6 : decode cX12_isFall 6 = .ok (.iconst 1, 1) := by decide +kernel
theorem dX12_isFall_7 : decode cX12_isFall 7 = .ok (.isub, 1) := by decide +kernel
theorem dX12_isFall_8 : decode cX12_isFall 8 = .ok (.invokestatic 147, 3) := by decide +kernel
theorem dX12_isFall_11 : decode cX12_isFall 11 = .ok (.ireturn, 1) := by decide +kernel
theorem ok_yX12_isFall : yOk yX12_isFall 1 := ⟨by decide +kernel, by decide +kernel, by decide +kernel⟩
def fX12_isFall (st : St) (a1 : Int32) : Bool := (fX12_in a1 (0 : Int32) ((gI st 0 8) - (1 : Int32)))
set_option maxHeartbeats 4000000 in
theorem zX12_isFall (l : Launch) (X : WX) (st : St) (a1 : Int32) : CtI l yX12_isFall cX12_isFall 2 .boolean ({ frames := 1, cells := 0, slots := 0, locals := 22 }) EM 43 X [.ref (xq X 0), .int a1] st (bI (fX12_isFall st a1)) st := by
  generalize hf : fX12_isFall st a1 = R
  refine ct_in (own := RX12) (by decide +kernel) rfl (Nat.le_of_ble_eq_true rfl) (fun p e s m below meth c C hr hw ls hl => ?_)
  obtain ⟨hx, hb, hml, hown, hts⟩ := id C.1
  have hl : lv_has ls 2 [(0, .ref (xq X 0)), (1, .int a1)] := hl
  unfold fX12_isFall at hf
  refine lv_iload_n hx hb dX12_isFall_0 rfl (lv_at hl 1 rfl) ?_
  refine lv_iconst (v := 0) hx hb dX12_isFall_1 (by decide) ?_
  refine lv_aload_n hx hb dX12_isFall_2 rfl (lv_at hl 0 rfl) ?_
  refine w_get (T := TX12) C hw (by decide) 8 kf_X12_151 (EM_0 X _ _) rfl inA12 (by decide) rfl dX12_isFall_3 ?_
  refine lv_iconst (v := 1) hx hb dX12_isFall_6 (by decide) ?_
  refine lv_isub hx hb dX12_isFall_7 ?_
  refine w_goI hw (w_runS (rest := []) C hw (zX12_in _ _ st a1 (0 : Int32) ((gI st 0 8) - (1 : Int32))) km_X12_147 kt_yX12_in kz_X12 kc_X12_in ok_yX12_in ⟨Nat.le_of_ble_eq_true rfl, Nat.le_of_ble_eq_true rfl⟩ rfl rfl rfl rfl hl.1 (Nat.le_of_ble_eq_true rfl) dX12_isFall_8 ⟨Nat.zero_le _, Nat.zero_le _⟩) (fun H locs hw => ?_)
  exact w_zret (b := (fX12_in a1 (0 : Int32) ((gI st 0 8) - (1 : Int32)))) C hw hr rfl hf rfl dX12_isFall_11
theorem dX12_isCry_0 : decode cX12_isCry 0 = .ok (.iload_n 1, 1) := by decide +kernel
theorem dX12_isCry_1 : decode cX12_isCry 1 = .ok (.iconst 0, 1) := by decide +kernel
theorem dX12_isCry_2 : decode cX12_isCry 2 = .ok (.aload_n 0, 1) := by decide +kernel
theorem dX12_isCry_3 : decode cX12_isCry 3 = .ok (.getfield 154, 3) := by decide +kernel
theorem dX12_isCry_6 : decode cX12_isCry 6 = .ok (.iconst 1, 1) := by decide +kernel
theorem dX12_isCry_7 : decode cX12_isCry 7 = .ok (.isub, 1) := by decide +kernel
theorem dX12_isCry_8 : decode cX12_isCry 8 = .ok (.invokestatic 147, 3) := by decide +kernel
theorem dX12_isCry_11 : decode cX12_isCry 11 = .ok (.ireturn, 1) := by decide +kernel
theorem ok_yX12_isCry : yOk yX12_isCry 1 := ⟨by decide +kernel, by decide +kernel, by decide +kernel⟩
def fX12_isCry (st : St) (a1 : Int32) : Bool := (fX12_in a1 (0 : Int32) ((gI st 0 13) - (1 : Int32)))
set_option maxHeartbeats 4000000 in
theorem zX12_isCry (l : Launch) (X : WX) (st : St) (a1 : Int32) : CtI l yX12_isCry cX12_isCry 2 .boolean ({ frames := 1, cells := 0, slots := 0, locals := 22 }) EM 43 X [.ref (xq X 0), .int a1] st (bI (fX12_isCry st a1)) st := by
  generalize hf : fX12_isCry st a1 = R
  refine ct_in (own := RX12) (by decide +kernel) rfl (Nat.le_of_ble_eq_true rfl) (fun p e s m below meth c C hr hw ls hl => ?_)
  obtain ⟨hx, hb, hml, hown, hts⟩ := id C.1
  have hl : lv_has ls 2 [(0, .ref (xq X 0)), (1, .int a1)] := hl
  unfold fX12_isCry at hf
  refine lv_iload_n hx hb dX12_isCry_0 rfl (lv_at hl 1 rfl) ?_
  refine lv_iconst (v := 0) hx hb dX12_isCry_1 (by decide) ?_
  refine lv_aload_n hx hb dX12_isCry_2 rfl (lv_at hl 0 rfl) ?_
  refine w_get (T := TX12) C hw (by decide) 13 kf_X12_154 (EM_0 X _ _) rfl inA12 (by decide) rfl dX12_isCry_3 ?_
  refine lv_iconst (v := 1) hx hb dX12_isCry_6 (by decide) ?_
  refine lv_isub hx hb dX12_isCry_7 ?_
  refine w_goI hw (w_runS (rest := []) C hw (zX12_in _ _ st a1 (0 : Int32) ((gI st 0 13) - (1 : Int32))) km_X12_147 kt_yX12_in kz_X12 kc_X12_in ok_yX12_in ⟨Nat.le_of_ble_eq_true rfl, Nat.le_of_ble_eq_true rfl⟩ rfl rfl rfl rfl hl.1 (Nat.le_of_ble_eq_true rfl) dX12_isCry_8 ⟨Nat.zero_le _, Nat.zero_le _⟩) (fun H locs hw => ?_)
  exact w_zret (b := (fX12_in a1 (0 : Int32) ((gI st 0 13) - (1 : Int32)))) C hw hr rfl hf rfl dX12_isCry_11
theorem dX12_isPerson_0 : decode cX12_isPerson 0 = .ok (.iload_n 0, 1) := by decide +kernel
theorem dX12_isPerson_1 : decode cX12_isPerson 1 = .ok (.iconst 0, 1) := by decide +kernel
theorem dX12_isPerson_2 : decode cX12_isPerson 2 = .ok (.iconst 5, 1) := by decide +kernel
theorem dX12_isPerson_3 : decode cX12_isPerson 3 = .ok (.invokestatic 147, 3) := by decide +kernel
theorem dX12_isPerson_6 : decode cX12_isPerson 6 = .ok (.ireturn, 1) := by decide +kernel
theorem ok_yX12_isPerson : yOk yX12_isPerson 1 := ⟨by decide +kernel, by decide +kernel, by decide +kernel⟩
def fX12_isPerson (a0 : Int32) : Bool := (fX12_in a0 (0 : Int32) (5 : Int32))
set_option maxHeartbeats 4000000 in
theorem zX12_isPerson (l : Launch) (X : WX) (st : St) (a0 : Int32) : CtI l yX12_isPerson cX12_isPerson 1 .boolean ({ frames := 1, cells := 0, slots := 0, locals := 22 }) EM 43 X [.int a0] st (bI (fX12_isPerson a0)) st := by
  generalize hf : fX12_isPerson a0 = R
  refine ct_in (own := RX12) (by decide +kernel) rfl (Nat.le_of_ble_eq_true rfl) (fun p e s m below meth c C hr hw ls hl => ?_)
  obtain ⟨hx, hb, hml, hown, hts⟩ := id C.1
  have hl : lv_has ls 1 [(0, .int a0)] := hl
  unfold fX12_isPerson at hf
  refine lv_iload_n hx hb dX12_isPerson_0 rfl (lv_at hl 0 rfl) ?_
  refine lv_iconst (v := 0) hx hb dX12_isPerson_1 (by decide) ?_
  refine lv_iconst (v := 5) hx hb dX12_isPerson_2 (by decide) ?_
  refine w_goI hw (w_runS (rest := []) C hw (zX12_in _ _ st a0 (0 : Int32) (5 : Int32)) km_X12_147 kt_yX12_in kz_X12 kc_X12_in ok_yX12_in ⟨Nat.le_of_ble_eq_true rfl, Nat.le_of_ble_eq_true rfl⟩ rfl rfl rfl rfl hl.1 (Nat.le_of_ble_eq_true rfl) dX12_isPerson_3 ⟨Nat.zero_le _, Nat.zero_le _⟩) (fun H locs hw => ?_)
  exact w_zret (b := (fX12_in a0 (0 : Int32) (5 : Int32))) C hw hr rfl hf rfl dX12_isPerson_6
theorem dX12_isMinute_0 : decode cX12_isMinute 0 = .ok (.iload_n 0, 1) := by decide +kernel
theorem dX12_isMinute_1 : decode cX12_isMinute 1 = .ok (.iconst 0, 1) := by decide +kernel
theorem dX12_isMinute_2 : decode cX12_isMinute 2 = .ok (.sipush 999, 3) := by decide +kernel
theorem dX12_isMinute_5 : decode cX12_isMinute 5 = .ok (.invokestatic 147, 3) := by decide +kernel
theorem dX12_isMinute_8 : decode cX12_isMinute 8 = .ok (.ireturn, 1) := by decide +kernel
theorem ok_yX12_isMinute : yOk yX12_isMinute 1 := ⟨by decide +kernel, by decide +kernel, by decide +kernel⟩
def fX12_isMinute (a0 : Int32) : Bool := (fX12_in a0 (0 : Int32) (999 : Int32))
set_option maxHeartbeats 4000000 in
theorem zX12_isMinute (l : Launch) (X : WX) (st : St) (a0 : Int32) : CtI l yX12_isMinute cX12_isMinute 1 .boolean ({ frames := 1, cells := 0, slots := 0, locals := 22 }) EM 43 X [.int a0] st (bI (fX12_isMinute a0)) st := by
  generalize hf : fX12_isMinute a0 = R
  refine ct_in (own := RX12) (by decide +kernel) rfl (Nat.le_of_ble_eq_true rfl) (fun p e s m below meth c C hr hw ls hl => ?_)
  obtain ⟨hx, hb, hml, hown, hts⟩ := id C.1
  have hl : lv_has ls 1 [(0, .int a0)] := hl
  unfold fX12_isMinute at hf
  refine lv_iload_n hx hb dX12_isMinute_0 rfl (lv_at hl 0 rfl) ?_
  refine lv_iconst (v := 0) hx hb dX12_isMinute_1 (by decide) ?_
  refine lv_sipush (v := 999) hx hb dX12_isMinute_2 (by decide) ?_
  refine w_goI hw (w_runS (rest := []) C hw (zX12_in _ _ st a0 (0 : Int32) (999 : Int32)) km_X12_147 kt_yX12_in kz_X12 kc_X12_in ok_yX12_in ⟨Nat.le_of_ble_eq_true rfl, Nat.le_of_ble_eq_true rfl⟩ rfl rfl rfl rfl hl.1 (Nat.le_of_ble_eq_true rfl) dX12_isMinute_5 ⟨Nat.zero_le _, Nat.zero_le _⟩) (fun H locs hw => ?_)
  exact w_zret (b := (fX12_in a0 (0 : Int32) (999 : Int32))) C hw hr rfl hf rfl dX12_isMinute_8
theorem dX12_areSides_0 : decode cX12_areSides 0 = .ok (.iload_n 0, 1) := by decide +kernel
theorem dX12_areSides_1 : decode cX12_areSides 1 = .ok (.ifCond .lt 33, 3) := by decide +kernel
theorem dX12_areSides_4 : decode cX12_areSides 4 = .ok (.iload_n 0, 1) := by decide +kernel
theorem dX12_areSides_5 : decode cX12_areSides 5 = .ok (.bipush 100, 2) := by decide +kernel
theorem dX12_areSides_7 : decode cX12_areSides 7 = .ok (.idiv, 1) := by decide +kernel
theorem dX12_areSides_8 : decode cX12_areSides 8 = .ok (.iconst 1, 1) := by decide +kernel
theorem dX12_areSides_9 : decode cX12_areSides 9 = .ok (.bipush 20, 2) := by decide +kernel
theorem dX12_areSides_11 : decode cX12_areSides 11 = .ok (.invokestatic 147, 3) := by decide +kernel
theorem dX12_areSides_14 : decode cX12_areSides 14 = .ok (.ifCond .eq 20, 3) := by decide +kernel
theorem dX12_areSides_17 : decode cX12_areSides 17 = .ok (.iload_n 0, 1) := by decide +kernel
theorem dX12_areSides_18 : decode cX12_areSides 18 = .ok (.bipush 100, 2) := by decide +kernel
theorem dX12_areSides_20 : decode cX12_areSides 20 = .ok (.irem, 1) := by decide +kernel
theorem dX12_areSides_21 : decode cX12_areSides 21 = .ok (.iconst 1, 1) := by decide +kernel
theorem dX12_areSides_22 : decode cX12_areSides 22 = .ok (.bipush 20, 2) := by decide +kernel
theorem dX12_areSides_24 : decode cX12_areSides 24 = .ok (.invokestatic 147, 3) := by decide +kernel
theorem dX12_areSides_27 : decode cX12_areSides 27 = .ok (.ifCond .eq 7, 3) := by decide +kernel
theorem dX12_areSides_30 : decode cX12_areSides 30 = .ok (.iconst 1, 1) := by decide +kernel
theorem dX12_areSides_31 : decode cX12_areSides 31 = .ok (.goto 4, 3) := by decide +kernel
theorem dX12_areSides_34 : decode cX12_areSides 34 = .ok (.iconst 0, 1) := by decide +kernel
theorem dX12_areSides_35 : decode cX12_areSides 35 = .ok (.ireturn, 1) := by decide +kernel
theorem ok_yX12_areSides : yOk yX12_areSides 1 := ⟨by decide +kernel, by decide +kernel, by decide +kernel⟩
def fX12_areSides (a0 : Int32) : Bool := if a0 < 0 then (false) else (if bI (fX12_in (a0 / (100 : Int32)) (1 : Int32) (20 : Int32)) = 0 then (false) else (if bI (fX12_in (rmI a0 (100 : Int32)) (1 : Int32) (20 : Int32)) = 0 then (false) else (true)))
set_option maxHeartbeats 4000000 in
theorem zX12_areSides (l : Launch) (X : WX) (st : St) (a0 : Int32) : CtI l yX12_areSides cX12_areSides 1 .boolean ({ frames := 1, cells := 0, slots := 0, locals := 22 }) EM 43 X [.int a0] st (bI (fX12_areSides a0)) st := by
  generalize hf : fX12_areSides a0 = R
  refine ct_in (own := RX12) (by decide +kernel) rfl (Nat.le_of_ble_eq_true rfl) (fun p e s m below meth c C hr hw ls hl => ?_)
  obtain ⟨hx, hb, hml, hown, hts⟩ := id C.1
  have hl : lv_has ls 1 [(0, .int a0)] := hl
  unfold fX12_areSides at hf
  refine lv_iload_n hx hb dX12_areSides_0 rfl (lv_at hl 0 rfl) ?_
  refine lv_if_lt (tgt := 34) hx hb dX12_areSides_1 (by decide) (fun c1 => ?_) (fun c1 => ?_)
  · replace hf := ite_t hf c1
    refine lv_iconst (v := 0) hx hb dX12_areSides_34 (by decide) ?_
    exact w_zret (b := false) C hw hr rfl hf rfl dX12_areSides_35
  · replace hf := ite_f hf c1
    refine lv_iload_n hx hb dX12_areSides_4 rfl (lv_at hl 0 rfl) ?_
    refine lv_bipush (v := 100) hx hb dX12_areSides_5 (by decide) ?_
    refine lv_idiv hx hb dX12_areSides_7 (by decide) ?_
    refine lv_iconst (v := 1) hx hb dX12_areSides_8 (by decide) ?_
    refine lv_bipush (v := 20) hx hb dX12_areSides_9 (by decide) ?_
    refine w_goI hw (w_runS (rest := []) C hw (zX12_in _ _ st (a0 / (100 : Int32)) (1 : Int32) (20 : Int32)) km_X12_147 kt_yX12_in kz_X12 kc_X12_in ok_yX12_in ⟨Nat.le_of_ble_eq_true rfl, Nat.le_of_ble_eq_true rfl⟩ rfl rfl rfl rfl hl.1 (Nat.le_of_ble_eq_true rfl) dX12_areSides_11 ⟨Nat.zero_le _, Nat.zero_le _⟩) (fun H locs hw => ?_)
    refine lv_if_eq (tgt := 34) hx hb dX12_areSides_14 (by decide) (fun c2 => ?_) (fun c2 => ?_)
    · replace hf := ite_t hf c2
      refine lv_iconst (v := 0) hx hb dX12_areSides_34 (by decide) ?_
      exact w_zret (b := false) C hw hr rfl hf rfl dX12_areSides_35
    · replace hf := ite_f hf c2
      refine lv_iload_n hx hb dX12_areSides_17 rfl (lv_at hl 0 rfl) ?_
      refine lv_bipush (v := 100) hx hb dX12_areSides_18 (by decide) ?_
      refine w_irem C (by decide) dX12_areSides_20 ?_
      refine lv_iconst (v := 1) hx hb dX12_areSides_21 (by decide) ?_
      refine lv_bipush (v := 20) hx hb dX12_areSides_22 (by decide) ?_
      refine w_goI hw (w_runS (rest := []) C hw (zX12_in _ _ st (rmI a0 (100 : Int32)) (1 : Int32) (20 : Int32)) km_X12_147 kt_yX12_in kz_X12 kc_X12_in ok_yX12_in ⟨Nat.le_of_ble_eq_true rfl, Nat.le_of_ble_eq_true rfl⟩ rfl rfl rfl rfl hl.1 (Nat.le_of_ble_eq_true rfl) dX12_areSides_24 ⟨Nat.zero_le _, Nat.zero_le _⟩) (fun H locs hw => ?_)
      refine lv_if_eq (tgt := 34) hx hb dX12_areSides_27 (by decide) (fun c3 => ?_) (fun c3 => ?_)
      · replace hf := ite_t hf c3
        refine lv_iconst (v := 0) hx hb dX12_areSides_34 (by decide) ?_
        exact w_zret (b := false) C hw hr rfl hf rfl dX12_areSides_35
      · replace hf := ite_f hf c3
        refine lv_iconst (v := 1) hx hb dX12_areSides_30 (by decide) ?_
        refine lv_goto (tgt := 35) hx hb dX12_areSides_31 (by decide) ?_
        exact w_zret (b := true) C hw hr rfl hf rfl dX12_areSides_35
theorem dX12_field_0 : decode cX12_field 0 = .ok (.iload_n 1, 1) := by decide +kernel
theorem dX12_field_1 : decode cX12_field 1 = .ok (.iconst 0, 1) := by decide +kernel
theorem dX12_field_2 : decode cX12_field 2 = .ok (.sipush 399, 3) := by decide +kernel
theorem dX12_field_5 : decode cX12_field 5 = .ok (.invokestatic 147, 3) := by decide +kernel
theorem dX12_field_8 : decode cX12_field 8 = .ok (.ifCond .eq 10, 3) := by decide +kernel
theorem dX12_field_11 : decode cX12_field 11 = .ok (.iload_n 2, 1) := by decide +kernel
theorem dX12_field_12 : decode cX12_field 12 = .ok (.invokestatic 157, 3) := by decide +kernel
theorem dX12_field_15 : decode cX12_field 15 = .ok (.ifCond .ne 5, 3) := by decide +kernel
theorem dX12_field_18 : decode cX12_field 18 = .ok (.iconst (-1), 1) := by decide +kernel
theorem dX12_field_19 : decode cX12_field 19 = .ok (.ireturn, 1) := by decide +kernel
theorem dX12_field_20 : decode cX12_field 20 = .ok (.aload_n 0, 1) := by decide +kernel
theorem dX12_field_21 : decode cX12_field 21 = .ok (.getfield 144, 3) := by decide +kernel
theorem dX12_field_24 : decode cX12_field 24 = .ok (.bipush 8, 2) := by decide +kernel
theorem dX12_field_26 : decode cX12_field 26 = .ok (.if_icmp .ne 6, 3) := by decide +kernel
theorem dX12_field_29 : decode cX12_field 29 = .ok (.bipush (-3), 2) := by decide +kernel
theorem dX12_field_31 : decode cX12_field 31 = .ok (.ireturn, 1) := by decide +kernel
theorem dX12_field_32 : decode cX12_field 32 = .ok (.aload_n 0, 1) := by decide +kernel
theorem dX12_field_33 : decode cX12_field 33 = .ok (.getfield 7, 3) := by decide +kernel
theorem dX12_field_36 : decode cX12_field 36 = .ok (.aload_n 0, 1) := by decide +kernel
theorem dX12_field_37 : decode cX12_field 37 = .ok (.getfield 144, 3) := by decide +kernel
theorem dX12_field_40 : decode cX12_field 40 = .ok (.iload_n 1, 1) := by decide +kernel
theorem dX12_field_41 : decode cX12_field 41 = .ok (.bipush 20, 2) := by decide +kernel
theorem dX12_field_43 : decode cX12_field 43 = .ok (.irem, 1) := by decide +kernel
theorem dX12_field_44 : decode cX12_field 44 = .ok (.iastore, 1) := by decide +kernel
theorem dX12_field_45 : decode cX12_field 45 = .ok (.aload_n 0, 1) := by decide +kernel
theorem dX12_field_46 : decode cX12_field 46 = .ok (.getfield 13, 3) := by decide +kernel
theorem dX12_field_49 : decode cX12_field 49 = .ok (.aload_n 0, 1) := by decide +kernel
theorem dX12_field_50 : decode cX12_field 50 = .ok (.getfield 144, 3) := by decide +kernel
theorem dX12_field_53 : decode cX12_field 53 = .ok (.iload_n 1, 1) := by decide +kernel
theorem dX12_field_54 : decode cX12_field 54 = .ok (.bipush 20, 2) := by decide +kernel
theorem dX12_field_56 : decode cX12_field 56 = .ok (.idiv, 1) := by decide +kernel
theorem dX12_field_57 : decode cX12_field 57 = .ok (.iastore, 1) := by decide +kernel
theorem dX12_field_58 : decode cX12_field 58 = .ok (.aload_n 0, 1) := by decide +kernel
theorem dX12_field_59 : decode cX12_field 59 = .ok (.getfield 16, 3) := by decide +kernel
theorem dX12_field_62 : decode cX12_field 62 = .ok (.aload_n 0, 1) := by decide +kernel
theorem dX12_field_63 : decode cX12_field 63 = .ok (.getfield 144, 3) := by decide +kernel
theorem dX12_field_66 : decode cX12_field 66 = .ok (.iload_n 2, 1) := by decide +kernel
theorem dX12_field_67 : decode cX12_field 67 = .ok (.bipush 100, 2) := by decide +kernel
theorem dX12_field_69 : decode cX12_field 69 = .ok (.idiv, 1) := by decide +kernel
theorem dX12_field_70 : decode cX12_field 70 = .ok (.iastore, 1) := by decide +kernel
theorem dX12_field_71 : decode cX12_field 71 = .ok (.aload_n 0, 1) := by decide +kernel
theorem dX12_field_72 : decode cX12_field 72 = .ok (.getfield 19, 3) := by decide +kernel
theorem dX12_field_75 : decode cX12_field 75 = .ok (.aload_n 0, 1) := by decide +kernel
theorem dX12_field_76 : decode cX12_field 76 = .ok (.getfield 144, 3) := by decide +kernel
theorem dX12_field_79 : decode cX12_field 79 = .ok (.iload_n 2, 1) := by decide +kernel
theorem dX12_field_80 : decode cX12_field 80 = .ok (.bipush 100, 2) := by decide +kernel
theorem dX12_field_82 : decode cX12_field 82 = .ok (.irem, 1) := by decide +kernel
theorem dX12_field_83 : decode cX12_field 83 = .ok (.iastore, 1) := by decide +kernel
theorem dX12_field_84 : decode cX12_field 84 = .ok (.aload_n 0, 1) := by decide +kernel
theorem dX12_field_85 : decode cX12_field 85 = .ok (.getfield 22, 3) := by decide +kernel
theorem dX12_field_88 : decode cX12_field 88 = .ok (.aload_n 0, 1) := by decide +kernel
theorem dX12_field_89 : decode cX12_field 89 = .ok (.getfield 144, 3) := by decide +kernel
theorem dX12_field_92 : decode cX12_field 92 = .ok (.iconst (-1), 1) := by decide +kernel
theorem dX12_field_93 : decode cX12_field 93 = .ok (.iastore, 1) := by decide +kernel
theorem dX12_field_94 : decode cX12_field 94 = .ok (.aload_n 0, 1) := by decide +kernel
theorem dX12_field_95 : decode cX12_field 95 = .ok (.getfield 25, 3) := by decide +kernel
theorem dX12_field_98 : decode cX12_field 98 = .ok (.aload_n 0, 1) := by decide +kernel
theorem dX12_field_99 : decode cX12_field 99 = .ok (.getfield 144, 3) := by decide +kernel
theorem dX12_field_102 : decode cX12_field 102 = .ok (.bipush 10, 2) := by decide +kernel
theorem dX12_field_104 : decode cX12_field 104 = .ok (.iastore, 1) := by decide +kernel
theorem dX12_field_105 : decode cX12_field 105 = .ok (.aload_n 0, 1) := by decide +kernel
theorem dX12_field_106 : decode cX12_field 106 = .ok (.dup, 1) := by decide +kernel
theorem dX12_field_107 : decode cX12_field 107 = .ok (.getfield 144, 3) := by decide +kernel
theorem dX12_field_110 : decode cX12_field 110 = .ok (.iconst 1, 1) := by decide +kernel
theorem dX12_field_111 : decode cX12_field 111 = .ok (.iadd, 1) := by decide +kernel
theorem dX12_field_112 : decode cX12_field 112 = .ok (.putfield 144, 3) := by decide +kernel
theorem dX12_field_115 : decode cX12_field 115 = .ok (.aload_n 0, 1) := by decide +kernel
theorem dX12_field_116 : decode cX12_field 116 = .ok (.getfield 144, 3) := by decide +kernel
theorem dX12_field_119 : decode cX12_field 119 = .ok (.iconst 1, 1) := by decide +kernel
theorem dX12_field_120 : decode cX12_field 120 = .ok (.isub, 1) := by decide +kernel
theorem dX12_field_121 : decode cX12_field 121 = .ok (.ireturn, 1) := by decide +kernel
theorem ok_yX12_field : yOk yX12_field 2 := ⟨by decide +kernel, by decide +kernel, by decide +kernel⟩
def fX12_field (st : St) (a1 : Int32) (a2 : Int32) : Option (Int32 × St) := if bI (fX12_in a1 (0 : Int32) (399 : Int32)) = 0 then (some ((-1 : Int32), st)) else (if bI (fX12_areSides a2) = 0 then (some ((-1 : Int32), st)) else (if gI st 0 1 = (8 : Int32) then (some ((-3 : Int32), st)) else (gd (inB (gI st 0 1) 8) (bnd (sI st 1 (gI st 0 1).toNatClampNeg (rmI a1 (20 : Int32))) (fun st5 => gd (inB (gI st5 0 1) 8) (bnd (sI st5 2 (gI st5 0 1).toNatClampNeg (a1 / (20 : Int32))) (fun st8 => gd (inB (gI st8 0 1) 8) (bnd (sI st8 3 (gI st8 0 1).toNatClampNeg (a2 / (100 : Int32))) (fun st11 => gd (inB (gI st11 0 1) 8) (bnd (sI st11 4 (gI st11 0 1).toNatClampNeg (rmI a2 (100 : Int32))) (fun st14 => gd (inB (gI st14 0 1) 8) (bnd (sI st14 5 (gI st14 0 1).toNatClampNeg (-1 : Int32)) (fun st17 => gd (inB (gI st17 0 1) 8) (bnd (sI st17 6 (gI st17 0 1).toNatClampNeg (10 : Int32)) (fun st20 => bnd (sI st20 0 1 ((gI st20 0 1) + (1 : Int32))) (fun st22 => some (((gI st22 0 1) - (1 : Int32)), st22)))))))))))))))))
set_option maxHeartbeats 4000000 in
theorem zX12_field (l : Launch) (X : WX) (st : St) (a1 : Int32) (a2 : Int32) (R : Int32 × St) (hf : fX12_field st a1 a2 = some R) : CtI l yX12_field cX12_field 3 .int ({ frames := 2, cells := 0, slots := 0, locals := 42 }) EM 43 X [.ref (xq X 0), .int a1, .int a2] st R.1 R.2 := by
  refine ct_in (own := RX12) (by decide +kernel) rfl (Nat.le_of_ble_eq_true rfl) (fun p e s m below meth c C hr hw ls hl => ?_)
  obtain ⟨hx, hb, hml, hown, hts⟩ := id C.1
  have hl : lv_has ls 3 [(0, .ref (xq X 0)), (1, .int a1), (2, .int a2)] := hl
  unfold fX12_field at hf
  refine lv_iload_n hx hb dX12_field_0 rfl (lv_at hl 1 rfl) ?_
  refine lv_iconst (v := 0) hx hb dX12_field_1 (by decide) ?_
  refine lv_sipush (v := 399) hx hb dX12_field_2 (by decide) ?_
  refine w_goI hw (w_runS (rest := []) C hw (zX12_in _ _ st a1 (0 : Int32) (399 : Int32)) km_X12_147 kt_yX12_in kz_X12 kc_X12_in ok_yX12_in ⟨Nat.le_of_ble_eq_true rfl, Nat.le_of_ble_eq_true rfl⟩ rfl rfl rfl rfl hl.1 (Nat.le_of_ble_eq_true rfl) dX12_field_5 ⟨Nat.zero_le _, Nat.zero_le _⟩) (fun H locs hw => ?_)
  refine lv_if_eq (tgt := 18) hx hb dX12_field_8 (by decide) (fun c1 => ?_) (fun c1 => ?_)
  · replace hf := ite_t hf c1
    refine lv_iconst (v := -1) hx hb dX12_field_18 (by decide) ?_
    exact w_iret C hw hr (so2 hf).1 (so2 hf).2 dX12_field_19
  · replace hf := ite_f hf c1
    refine lv_iload_n hx hb dX12_field_11 rfl (lv_at hl 2 rfl) ?_
    refine w_goI hw (w_runS (rest := []) C hw (zX12_areSides _ _ st a2) km_X12_157 kt_yX12_areSides kz_X12 kc_X12_areSides ok_yX12_areSides ⟨Nat.le_of_ble_eq_true rfl, Nat.le_of_ble_eq_true rfl⟩ rfl rfl rfl rfl hl.1 (Nat.le_of_ble_eq_true rfl) dX12_field_12 ⟨Nat.zero_le _, Nat.zero_le _⟩) (fun H locs hw => ?_)
    refine lv_if_ne (tgt := 20) hx hb dX12_field_15 (by decide) (fun c2 => ?_) (fun c2 => ?_)
    · replace hf := ite_f hf c2
      refine lv_aload_n hx hb dX12_field_20 rfl (lv_at hl 0 rfl) ?_
      refine w_get (T := TX12) C hw (by decide) 1 kf_X12_144 (EM_0 X _ _) rfl inA12 (by decide) rfl dX12_field_21 ?_
      refine lv_bipush (v := 8) hx hb dX12_field_24 (by decide) ?_
      refine lv_icmp_ne (tgt := 32) hx hb dX12_field_26 (by decide) (fun c3 => ?_) (fun c3 => ?_)
      · replace hf := ite_f hf c3
        refine lv_aload_n hx hb dX12_field_32 rfl (lv_at hl 0 rfl) ?_
        refine w_get (T := TX12) C hw (by decide) 2 kf_X12_7 (EM_0 X _ _) rfl inA12 (by decide) rfl dX12_field_33 ?_
        refine lv_aload_n hx hb dX12_field_36 rfl (lv_at hl 0 rfl) ?_
        refine w_get (T := TX12) C hw (by decide) 1 kf_X12_144 (EM_0 X _ _) rfl inA12 (by decide) rfl dX12_field_37 ?_
        refine lv_iload_n hx hb dX12_field_40 rfl (lv_at hl 1 rfl) ?_
        refine lv_bipush (v := 20) hx hb dX12_field_41 (by decide) ?_
        refine w_irem C (by decide) dX12_field_43 ?_
        obtain ⟨h4, hf⟩ := gd_some hf
        obtain ⟨st5, es6⟩ : ∃ z : St, z = sI st 1 (gI st 0 1).toNatClampNeg (rmI a1 (20 : Int32)) := ⟨_, rfl⟩
        replace hf := bnd_nm hf es6
        refine w_iast C hw (by decide) (fun f9 => EM_1 X f9 _) h4 rfl dX12_field_44 (fun H locs hw => ?_)
        rw [← es6] at hw
        refine lv_aload_n hx hb dX12_field_45 rfl (lv_at hl 0 rfl) ?_
        refine w_get (T := TX12) C hw (by decide) 3 kf_X12_13 (EM_0 X _ _) rfl inA12 (by decide) rfl dX12_field_46 ?_
        refine lv_aload_n hx hb dX12_field_49 rfl (lv_at hl 0 rfl) ?_
        refine w_get (T := TX12) C hw (by decide) 1 kf_X12_144 (EM_0 X _ _) rfl inA12 (by decide) rfl dX12_field_50 ?_
        refine lv_iload_n hx hb dX12_field_53 rfl (lv_at hl 1 rfl) ?_
        refine lv_bipush (v := 20) hx hb dX12_field_54 (by decide) ?_
        refine lv_idiv hx hb dX12_field_56 (by decide) ?_
        obtain ⟨h7, hf⟩ := gd_some hf
        obtain ⟨st8, es9⟩ : ∃ z : St, z = sI st5 2 (gI st5 0 1).toNatClampNeg (a1 / (20 : Int32)) := ⟨_, rfl⟩
        replace hf := bnd_nm hf es9
        refine w_iast C hw (by decide) (fun f9 => EM_2 X f9 _) h7 rfl dX12_field_57 (fun H locs hw => ?_)
        rw [← es9] at hw
        refine lv_aload_n hx hb dX12_field_58 rfl (lv_at hl 0 rfl) ?_
        refine w_get (T := TX12) C hw (by decide) 4 kf_X12_16 (EM_0 X _ _) rfl inA12 (by decide) rfl dX12_field_59 ?_
        refine lv_aload_n hx hb dX12_field_62 rfl (lv_at hl 0 rfl) ?_
        refine w_get (T := TX12) C hw (by decide) 1 kf_X12_144 (EM_0 X _ _) rfl inA12 (by decide) rfl dX12_field_63 ?_
        refine lv_iload_n hx hb dX12_field_66 rfl (lv_at hl 2 rfl) ?_
        refine lv_bipush (v := 100) hx hb dX12_field_67 (by decide) ?_
        refine lv_idiv hx hb dX12_field_69 (by decide) ?_
        obtain ⟨h10, hf⟩ := gd_some hf
        obtain ⟨st11, es12⟩ : ∃ z : St, z = sI st8 3 (gI st8 0 1).toNatClampNeg (a2 / (100 : Int32)) := ⟨_, rfl⟩
        replace hf := bnd_nm hf es12
        refine w_iast C hw (by decide) (fun f9 => EM_3 X f9 _) h10 rfl dX12_field_70 (fun H locs hw => ?_)
        rw [← es12] at hw
        refine lv_aload_n hx hb dX12_field_71 rfl (lv_at hl 0 rfl) ?_
        refine w_get (T := TX12) C hw (by decide) 5 kf_X12_19 (EM_0 X _ _) rfl inA12 (by decide) rfl dX12_field_72 ?_
        refine lv_aload_n hx hb dX12_field_75 rfl (lv_at hl 0 rfl) ?_
        refine w_get (T := TX12) C hw (by decide) 1 kf_X12_144 (EM_0 X _ _) rfl inA12 (by decide) rfl dX12_field_76 ?_
        refine lv_iload_n hx hb dX12_field_79 rfl (lv_at hl 2 rfl) ?_
        refine lv_bipush (v := 100) hx hb dX12_field_80 (by decide) ?_
        refine w_irem C (by decide) dX12_field_82 ?_
        obtain ⟨h13, hf⟩ := gd_some hf
        obtain ⟨st14, es15⟩ : ∃ z : St, z = sI st11 4 (gI st11 0 1).toNatClampNeg (rmI a2 (100 : Int32)) := ⟨_, rfl⟩
        replace hf := bnd_nm hf es15
        refine w_iast C hw (by decide) (fun f9 => EM_4 X f9 _) h13 rfl dX12_field_83 (fun H locs hw => ?_)
        rw [← es15] at hw
        refine lv_aload_n hx hb dX12_field_84 rfl (lv_at hl 0 rfl) ?_
        refine w_get (T := TX12) C hw (by decide) 6 kf_X12_22 (EM_0 X _ _) rfl inA12 (by decide) rfl dX12_field_85 ?_
        refine lv_aload_n hx hb dX12_field_88 rfl (lv_at hl 0 rfl) ?_
        refine w_get (T := TX12) C hw (by decide) 1 kf_X12_144 (EM_0 X _ _) rfl inA12 (by decide) rfl dX12_field_89 ?_
        refine lv_iconst (v := -1) hx hb dX12_field_92 (by decide) ?_
        obtain ⟨h16, hf⟩ := gd_some hf
        obtain ⟨st17, es18⟩ : ∃ z : St, z = sI st14 5 (gI st14 0 1).toNatClampNeg (-1 : Int32) := ⟨_, rfl⟩
        replace hf := bnd_nm hf es18
        refine w_iast C hw (by decide) (fun f9 => EM_5 X f9 _) h16 rfl dX12_field_93 (fun H locs hw => ?_)
        rw [← es18] at hw
        refine lv_aload_n hx hb dX12_field_94 rfl (lv_at hl 0 rfl) ?_
        refine w_get (T := TX12) C hw (by decide) 7 kf_X12_25 (EM_0 X _ _) rfl inA12 (by decide) rfl dX12_field_95 ?_
        refine lv_aload_n hx hb dX12_field_98 rfl (lv_at hl 0 rfl) ?_
        refine w_get (T := TX12) C hw (by decide) 1 kf_X12_144 (EM_0 X _ _) rfl inA12 (by decide) rfl dX12_field_99 ?_
        refine lv_bipush (v := 10) hx hb dX12_field_102 (by decide) ?_
        obtain ⟨h19, hf⟩ := gd_some hf
        obtain ⟨st20, es21⟩ : ∃ z : St, z = sI st17 6 (gI st17 0 1).toNatClampNeg (10 : Int32) := ⟨_, rfl⟩
        replace hf := bnd_nm hf es21
        refine w_iast C hw (by decide) (fun f9 => EM_6 X f9 _) h19 rfl dX12_field_104 (fun H locs hw => ?_)
        rw [← es21] at hw
        refine lv_aload_n hx hb dX12_field_105 rfl (lv_at hl 0 rfl) ?_
        refine lv_dup hx hb dX12_field_106 rfl ?_
        refine w_get (T := TX12) C hw (by decide) 1 kf_X12_144 (EM_0 X _ _) rfl inA12 (by decide) rfl dX12_field_107 ?_
        refine lv_iconst (v := 1) hx hb dX12_field_110 (by decide) ?_
        refine lv_iadd hx hb dX12_field_111 ?_
        obtain ⟨st22, es23⟩ : ∃ z : St, z = sI st20 0 1 ((gI st20 0 1) + (1 : Int32)) := ⟨_, rfl⟩
        replace hf := bnd_nm hf es23
        refine w_puti (T := TX12) C hw (by decide) 1 kf_X12_144 (EM_0 X _ _) rfl inA12 tyX12_ok nmX12 (by decide) rfl rfl (Nat.le_of_ble_eq_true rfl) rfl dX12_field_112 (fun H locs hw => ?_)
        rw [← es23] at hw
        refine lv_aload_n hx hb dX12_field_115 rfl (lv_at hl 0 rfl) ?_
        refine w_get (T := TX12) C hw (by decide) 1 kf_X12_144 (EM_0 X _ _) rfl inA12 (by decide) rfl dX12_field_116 ?_
        refine lv_iconst (v := 1) hx hb dX12_field_119 (by decide) ?_
        refine lv_isub hx hb dX12_field_120 ?_
        exact w_iret C hw hr (so2 hf).1 (so2 hf).2 dX12_field_121
      · replace hf := ite_t hf c3
        refine lv_bipush (v := -3) hx hb dX12_field_29 (by decide) ?_
        exact w_iret C hw hr (so2 hf).1 (so2 hf).2 dX12_field_31
    · replace hf := ite_t hf c2
      refine lv_iconst (v := -1) hx hb dX12_field_18 (by decide) ?_
      exact w_iret C hw hr (so2 hf).1 (so2 hf).2 dX12_field_19
theorem dX12_addFall_0 : decode cX12_addFall 0 = .ok (.aload_n 0, 1) := by decide +kernel
theorem dX12_addFall_1 : decode cX12_addFall 1 = .ok (.getfield 28, 3) := by decide +kernel
theorem dX12_addFall_4 : decode cX12_addFall 4 = .ok (.aload_n 0, 1) := by decide +kernel
theorem dX12_addFall_5 : decode cX12_addFall 5 = .ok (.getfield 151, 3) := by decide +kernel
theorem dX12_addFall_8 : decode cX12_addFall 8 = .ok (.iload_n 1, 1) := by decide +kernel
theorem dX12_addFall_9 : decode cX12_addFall 9 = .ok (.iastore, 1) := by decide +kernel
theorem dX12_addFall_10 : decode cX12_addFall 10 = .ok (.aload_n 0, 1) := by decide +kernel
theorem dX12_addFall_11 : decode cX12_addFall 11 = .ok (.getfield 31, 3) := by decide +kernel
theorem dX12_addFall_14 : decode cX12_addFall 14 = .ok (.aload_n 0, 1) := by decide +kernel
theorem dX12_addFall_15 : decode cX12_addFall 15 = .ok (.getfield 151, 3) := by decide +kernel
theorem dX12_addFall_18 : decode cX12_addFall 18 = .ok (.iload_n 2, 1) := by decide +kernel
theorem dX12_addFall_19 : decode cX12_addFall 19 = .ok (.iastore, 1) := by decide +kernel
theorem dX12_addFall_20 : decode cX12_addFall 20 = .ok (.aload_n 0, 1) := by decide +kernel
theorem dX12_addFall_21 : decode cX12_addFall 21 = .ok (.getfield 34, 3) := by decide +kernel
theorem dX12_addFall_24 : decode cX12_addFall 24 = .ok (.aload_n 0, 1) := by decide +kernel
theorem dX12_addFall_25 : decode cX12_addFall 25 = .ok (.getfield 151, 3) := by decide +kernel
theorem dX12_addFall_28 : decode cX12_addFall 28 = .ok (.iload_n 3, 1) := by decide +kernel
theorem dX12_addFall_29 : decode cX12_addFall 29 = .ok (.iastore, 1) := by decide +kernel
theorem dX12_addFall_30 : decode cX12_addFall 30 = .ok (.aload_n 0, 1) := by decide +kernel
theorem dX12_addFall_31 : decode cX12_addFall 31 = .ok (.getfield 37, 3) := by decide +kernel
theorem dX12_addFall_34 : decode cX12_addFall 34 = .ok (.aload_n 0, 1) := by decide +kernel
theorem dX12_addFall_35 : decode cX12_addFall 35 = .ok (.getfield 151, 3) := by decide +kernel
theorem dX12_addFall_38 : decode cX12_addFall 38 = .ok (.iconst 0, 1) := by decide +kernel
theorem dX12_addFall_39 : decode cX12_addFall 39 = .ok (.iastore, 1) := by decide +kernel
theorem dX12_addFall_40 : decode cX12_addFall 40 = .ok (.aload_n 0, 1) := by decide +kernel
theorem dX12_addFall_41 : decode cX12_addFall 41 = .ok (.getfield 99, 3) := by decide +kernel
theorem dX12_addFall_44 : decode cX12_addFall 44 = .ok (.aload_n 0, 1) := by decide +kernel
theorem dX12_addFall_45 : decode cX12_addFall 45 = .ok (.getfield 151, 3) := by decide +kernel
theorem dX12_addFall_48 : decode cX12_addFall 48 = .ok (.iconst 0, 1) := by decide +kernel
theorem dX12_addFall_49 : decode cX12_addFall 49 = .ok (.bastore, 1) := by decide +kernel
theorem dX12_addFall_50 : decode cX12_addFall 50 = .ok (.aload_n 0, 1) := by decide +kernel
theorem dX12_addFall_51 : decode cX12_addFall 51 = .ok (.dup, 1) := by decide +kernel
theorem dX12_addFall_52 : decode cX12_addFall 52 = .ok (.getfield 151, 3) := by decide +kernel
theorem dX12_addFall_55 : decode cX12_addFall 55 = .ok (.iconst 1, 1) := by decide +kernel
theorem dX12_addFall_56 : decode cX12_addFall 56 = .ok (.iadd, 1) := by decide +kernel
theorem dX12_addFall_57 : decode cX12_addFall 57 = .ok (.putfield 151, 3) := by decide +kernel
theorem dX12_addFall_60 : decode cX12_addFall 60 = .ok (.aload_n 0, 1) := by decide +kernel
theorem dX12_addFall_61 : decode cX12_addFall 61 = .ok (.getfield 151, 3) := by decide +kernel
theorem dX12_addFall_64 : decode cX12_addFall 64 = .ok (.iconst 1, 1) := by decide +kernel
theorem dX12_addFall_65 : decode cX12_addFall 65 = .ok (.isub, 1) := by decide +kernel
theorem dX12_addFall_66 : decode cX12_addFall 66 = .ok (.ireturn, 1) := by decide +kernel
theorem ok_yX12_addFall : yOk yX12_addFall 3 := ⟨by decide +kernel, by decide +kernel, by decide +kernel⟩
def fX12_addFall (st : St) (a1 : Int32) (a2 : Int32) (a3 : Int32) : Option (Int32 × St) := gd (inB (gI st 0 8) 11) (bnd (sI st 7 (gI st 0 8).toNatClampNeg a1) (fun st2 => gd (inB (gI st2 0 8) 11) (bnd (sI st2 8 (gI st2 0 8).toNatClampNeg a2) (fun st5 => gd (inB (gI st5 0 8) 11) (bnd (sI st5 9 (gI st5 0 8).toNatClampNeg a3) (fun st8 => gd (inB (gI st8 0 8) 11) (bnd (sI st8 10 (gI st8 0 8).toNatClampNeg (0 : Int32)) (fun st11 => gd (inB (gI st11 0 8) 11) (bnd (sI st11 30 (gI st11 0 8).toNatClampNeg (vp_nar .boolean (0 : Int32))) (fun st14 => bnd (sI st14 0 8 ((gI st14 0 8) + (1 : Int32))) (fun st16 => some (((gI st16 0 8) - (1 : Int32)), st16))))))))))))
set_option maxHeartbeats 4000000 in
theorem zX12_addFall (l : Launch) (X : WX) (st : St) (a1 : Int32) (a2 : Int32) (a3 : Int32) (R : Int32 × St) (hf : fX12_addFall st a1 a2 a3 = some R) : CtI l yX12_addFall cX12_addFall 4 .int ({ frames := 0, cells := 0, slots := 0, locals := 0 }) EM 43 X [.ref (xq X 0), .int a1, .int a2, .int a3] st R.1 R.2 := by
  refine ct_in (own := RX12) (by decide +kernel) rfl (Nat.le_of_ble_eq_true rfl) (fun p e s m below meth c C hr hw ls hl => ?_)
  obtain ⟨hx, hb, hml, hown, hts⟩ := id C.1
  have hl : lv_has ls 4 [(0, .ref (xq X 0)), (1, .int a1), (2, .int a2), (3, .int a3)] := hl
  unfold fX12_addFall at hf
  refine lv_aload_n hx hb dX12_addFall_0 rfl (lv_at hl 0 rfl) ?_
  refine w_get (T := TX12) C hw (by decide) 9 kf_X12_28 (EM_0 X _ _) rfl inA12 (by decide) rfl dX12_addFall_1 ?_
  refine lv_aload_n hx hb dX12_addFall_4 rfl (lv_at hl 0 rfl) ?_
  refine w_get (T := TX12) C hw (by decide) 8 kf_X12_151 (EM_0 X _ _) rfl inA12 (by decide) rfl dX12_addFall_5 ?_
  refine lv_iload_n hx hb dX12_addFall_8 rfl (lv_at hl 1 rfl) ?_
  obtain ⟨h1, hf⟩ := gd_some hf
  obtain ⟨st2, es3⟩ : ∃ z : St, z = sI st 7 (gI st 0 8).toNatClampNeg a1 := ⟨_, rfl⟩
  replace hf := bnd_nm hf es3
  refine w_iast C hw (by decide) (fun f9 => EM_7 X f9 _) h1 rfl dX12_addFall_9 (fun H locs hw => ?_)
  rw [← es3] at hw
  refine lv_aload_n hx hb dX12_addFall_10 rfl (lv_at hl 0 rfl) ?_
  refine w_get (T := TX12) C hw (by decide) 10 kf_X12_31 (EM_0 X _ _) rfl inA12 (by decide) rfl dX12_addFall_11 ?_
  refine lv_aload_n hx hb dX12_addFall_14 rfl (lv_at hl 0 rfl) ?_
  refine w_get (T := TX12) C hw (by decide) 8 kf_X12_151 (EM_0 X _ _) rfl inA12 (by decide) rfl dX12_addFall_15 ?_
  refine lv_iload_n hx hb dX12_addFall_18 rfl (lv_at hl 2 rfl) ?_
  obtain ⟨h4, hf⟩ := gd_some hf
  obtain ⟨st5, es6⟩ : ∃ z : St, z = sI st2 8 (gI st2 0 8).toNatClampNeg a2 := ⟨_, rfl⟩
  replace hf := bnd_nm hf es6
  refine w_iast C hw (by decide) (fun f9 => EM_8 X f9 _) h4 rfl dX12_addFall_19 (fun H locs hw => ?_)
  rw [← es6] at hw
  refine lv_aload_n hx hb dX12_addFall_20 rfl (lv_at hl 0 rfl) ?_
  refine w_get (T := TX12) C hw (by decide) 11 kf_X12_34 (EM_0 X _ _) rfl inA12 (by decide) rfl dX12_addFall_21 ?_
  refine lv_aload_n hx hb dX12_addFall_24 rfl (lv_at hl 0 rfl) ?_
  refine w_get (T := TX12) C hw (by decide) 8 kf_X12_151 (EM_0 X _ _) rfl inA12 (by decide) rfl dX12_addFall_25 ?_
  refine lv_iload_n hx hb dX12_addFall_28 rfl (lv_at hl 3 rfl) ?_
  obtain ⟨h7, hf⟩ := gd_some hf
  obtain ⟨st8, es9⟩ : ∃ z : St, z = sI st5 9 (gI st5 0 8).toNatClampNeg a3 := ⟨_, rfl⟩
  replace hf := bnd_nm hf es9
  refine w_iast C hw (by decide) (fun f9 => EM_9 X f9 _) h7 rfl dX12_addFall_29 (fun H locs hw => ?_)
  rw [← es9] at hw
  refine lv_aload_n hx hb dX12_addFall_30 rfl (lv_at hl 0 rfl) ?_
  refine w_get (T := TX12) C hw (by decide) 12 kf_X12_37 (EM_0 X _ _) rfl inA12 (by decide) rfl dX12_addFall_31 ?_
  refine lv_aload_n hx hb dX12_addFall_34 rfl (lv_at hl 0 rfl) ?_
  refine w_get (T := TX12) C hw (by decide) 8 kf_X12_151 (EM_0 X _ _) rfl inA12 (by decide) rfl dX12_addFall_35 ?_
  refine lv_iconst (v := 0) hx hb dX12_addFall_38 (by decide) ?_
  obtain ⟨h10, hf⟩ := gd_some hf
  obtain ⟨st11, es12⟩ : ∃ z : St, z = sI st8 10 (gI st8 0 8).toNatClampNeg (0 : Int32) := ⟨_, rfl⟩
  replace hf := bnd_nm hf es12
  refine w_iast C hw (by decide) (fun f9 => EM_10 X f9 _) h10 rfl dX12_addFall_39 (fun H locs hw => ?_)
  rw [← es12] at hw
  refine lv_aload_n hx hb dX12_addFall_40 rfl (lv_at hl 0 rfl) ?_
  refine w_get (T := TX12) C hw (by decide) 41 kf_X12_99 (EM_0 X _ _) rfl inA12 (by decide) rfl dX12_addFall_41 ?_
  refine lv_aload_n hx hb dX12_addFall_44 rfl (lv_at hl 0 rfl) ?_
  refine w_get (T := TX12) C hw (by decide) 8 kf_X12_151 (EM_0 X _ _) rfl inA12 (by decide) rfl dX12_addFall_45 ?_
  refine lv_iconst (v := 0) hx hb dX12_addFall_48 (by decide) ?_
  obtain ⟨h13, hf⟩ := gd_some hf
  obtain ⟨st14, es15⟩ : ∃ z : St, z = sI st11 30 (gI st11 0 8).toNatClampNeg (vp_nar .boolean (0 : Int32)) := ⟨_, rfl⟩
  replace hf := bnd_nm hf es15
  refine w_zast C hw (by decide) (fun f9 => EM_30 X f9 _) h13 rfl dX12_addFall_49 (fun H locs hw => ?_)
  rw [← es15] at hw
  refine lv_aload_n hx hb dX12_addFall_50 rfl (lv_at hl 0 rfl) ?_
  refine lv_dup hx hb dX12_addFall_51 rfl ?_
  refine w_get (T := TX12) C hw (by decide) 8 kf_X12_151 (EM_0 X _ _) rfl inA12 (by decide) rfl dX12_addFall_52 ?_
  refine lv_iconst (v := 1) hx hb dX12_addFall_55 (by decide) ?_
  refine lv_iadd hx hb dX12_addFall_56 ?_
  obtain ⟨st16, es17⟩ : ∃ z : St, z = sI st14 0 8 ((gI st14 0 8) + (1 : Int32)) := ⟨_, rfl⟩
  replace hf := bnd_nm hf es17
  refine w_puti (T := TX12) C hw (by decide) 8 kf_X12_151 (EM_0 X _ _) rfl inA12 tyX12_ok nmX12 (by decide) rfl rfl (Nat.le_of_ble_eq_true rfl) rfl dX12_addFall_57 (fun H locs hw => ?_)
  rw [← es17] at hw
  refine lv_aload_n hx hb dX12_addFall_60 rfl (lv_at hl 0 rfl) ?_
  refine w_get (T := TX12) C hw (by decide) 8 kf_X12_151 (EM_0 X _ _) rfl inA12 (by decide) rfl dX12_addFall_61 ?_
  refine lv_iconst (v := 1) hx hb dX12_addFall_64 (by decide) ?_
  refine lv_isub hx hb dX12_addFall_65 ?_
  exact w_iret C hw hr (so2 hf).1 (so2 hf).2 dX12_addFall_66
theorem dX12_fall_0 : decode cX12_fall 0 = .ok (.iload_n 1, 1) := by decide +kernel
theorem dX12_fall_1 : decode cX12_fall 1 = .ok (.iconst 0, 1) := by decide +kernel
theorem dX12_fall_2 : decode cX12_fall 2 = .ok (.sipush 399, 3) := by decide +kernel
theorem dX12_fall_5 : decode cX12_fall 5 = .ok (.invokestatic 147, 3) := by decide +kernel
theorem dX12_fall_8 : decode cX12_fall 8 = .ok (.ifCond .eq 10, 3) := by decide +kernel
theorem dX12_fall_11 : decode cX12_fall 11 = .ok (.iload_n 2, 1) := by decide +kernel
theorem dX12_fall_12 : decode cX12_fall 12 = .ok (.invokestatic 161, 3) := by decide +kernel
theorem dX12_fall_15 : decode cX12_fall 15 = .ok (.ifCond .ne 5, 3) := by decide +kernel
theorem dX12_fall_18 : decode cX12_fall 18 = .ok (.iconst (-1), 1) := by decide +kernel
theorem dX12_fall_19 : decode cX12_fall 19 = .ok (.ireturn, 1) := by decide +kernel
theorem dX12_fall_20 : decode cX12_fall 20 = .ok (.aload_n 0, 1) := by decide +kernel
theorem dX12_fall_21 : decode cX12_fall 21 = .ok (.getfield 151, 3) := by decide +kernel
theorem dX12_fall_24 : decode cX12_fall 24 = .ok (.bipush 10, 2) := by decide +kernel
theorem dX12_fall_26 : decode cX12_fall 26 = .ok (.if_icmp .ne 8, 3) := by decide +kernel
theorem dX12_fall_29 : decode cX12_fall 29 = .ok (.bipush (-3), 2) := by decide +kernel
theorem dX12_fall_31 : decode cX12_fall 31 = .ok (.goto 16, 3) := by decide +kernel
theorem dX12_fall_34 : decode cX12_fall 34 = .ok (.aload_n 0, 1) := by decide +kernel
theorem dX12_fall_35 : decode cX12_fall 35 = .ok (.iload_n 1, 1) := by decide +kernel
theorem dX12_fall_36 : decode cX12_fall 36 = .ok (.bipush 20, 2) := by decide +kernel
theorem dX12_fall_38 : decode cX12_fall 38 = .ok (.irem, 1) := by decide +kernel
theorem dX12_fall_39 : decode cX12_fall 39 = .ok (.iload_n 1, 1) := by decide +kernel
theorem dX12_fall_40 : decode cX12_fall 40 = .ok (.bipush 20, 2) := by decide +kernel
theorem dX12_fall_42 : decode cX12_fall 42 = .ok (.idiv, 1) := by decide +kernel
theorem dX12_fall_43 : decode cX12_fall 43 = .ok (.iload_n 2, 1) := by decide +kernel
theorem dX12_fall_44 : decode cX12_fall 44 = .ok (.invokevirtual 164, 3) := by decide +kernel
theorem dX12_fall_47 : decode cX12_fall 47 = .ok (.ireturn, 1) := by decide +kernel
theorem ok_yX12_fall : yOk yX12_fall 2 := ⟨by decide +kernel, by decide +kernel, by decide +kernel⟩
def fX12_fall (st : St) (a1 : Int32) (a2 : Int32) : Option (Int32 × St) := if bI (fX12_in a1 (0 : Int32) (399 : Int32)) = 0 then (some ((-1 : Int32), st)) else (if bI (fX12_isMinute a2) = 0 then (some ((-1 : Int32), st)) else (if gI st 0 8 = (10 : Int32) then (some ((-3 : Int32), st)) else ((fX12_addFall st (rmI a1 (20 : Int32)) (a1 / (20 : Int32)) a2).bind (fun r4 => some (r4.1, r4.2)))))
set_option maxHeartbeats 4000000 in
theorem zX12_fall (l : Launch) (X : WX) (st : St) (a1 : Int32) (a2 : Int32) (R : Int32 × St) (hf : fX12_fall st a1 a2 = some R) : CtI l yX12_fall cX12_fall 3 .int ({ frames := 2, cells := 0, slots := 0, locals := 42 }) EM 43 X [.ref (xq X 0), .int a1, .int a2] st R.1 R.2 := by
  refine ct_in (own := RX12) (by decide +kernel) rfl (Nat.le_of_ble_eq_true rfl) (fun p e s m below meth c C hr hw ls hl => ?_)
  obtain ⟨hx, hb, hml, hown, hts⟩ := id C.1
  have hl : lv_has ls 3 [(0, .ref (xq X 0)), (1, .int a1), (2, .int a2)] := hl
  unfold fX12_fall at hf
  refine lv_iload_n hx hb dX12_fall_0 rfl (lv_at hl 1 rfl) ?_
  refine lv_iconst (v := 0) hx hb dX12_fall_1 (by decide) ?_
  refine lv_sipush (v := 399) hx hb dX12_fall_2 (by decide) ?_
  refine w_goI hw (w_runS (rest := []) C hw (zX12_in _ _ st a1 (0 : Int32) (399 : Int32)) km_X12_147 kt_yX12_in kz_X12 kc_X12_in ok_yX12_in ⟨Nat.le_of_ble_eq_true rfl, Nat.le_of_ble_eq_true rfl⟩ rfl rfl rfl rfl hl.1 (Nat.le_of_ble_eq_true rfl) dX12_fall_5 ⟨Nat.zero_le _, Nat.zero_le _⟩) (fun H locs hw => ?_)
  refine lv_if_eq (tgt := 18) hx hb dX12_fall_8 (by decide) (fun c1 => ?_) (fun c1 => ?_)
  · replace hf := ite_t hf c1
    refine lv_iconst (v := -1) hx hb dX12_fall_18 (by decide) ?_
    exact w_iret C hw hr (so2 hf).1 (so2 hf).2 dX12_fall_19
  · replace hf := ite_f hf c1
    refine lv_iload_n hx hb dX12_fall_11 rfl (lv_at hl 2 rfl) ?_
    refine w_goI hw (w_runS (rest := []) C hw (zX12_isMinute _ _ st a2) km_X12_161 kt_yX12_isMinute kz_X12 kc_X12_isMinute ok_yX12_isMinute ⟨Nat.le_of_ble_eq_true rfl, Nat.le_of_ble_eq_true rfl⟩ rfl rfl rfl rfl hl.1 (Nat.le_of_ble_eq_true rfl) dX12_fall_12 ⟨Nat.zero_le _, Nat.zero_le _⟩) (fun H locs hw => ?_)
    refine lv_if_ne (tgt := 20) hx hb dX12_fall_15 (by decide) (fun c2 => ?_) (fun c2 => ?_)
    · replace hf := ite_f hf c2
      refine lv_aload_n hx hb dX12_fall_20 rfl (lv_at hl 0 rfl) ?_
      refine w_get (T := TX12) C hw (by decide) 8 kf_X12_151 (EM_0 X _ _) rfl inA12 (by decide) rfl dX12_fall_21 ?_
      refine lv_bipush (v := 10) hx hb dX12_fall_24 (by decide) ?_
      refine lv_icmp_ne (tgt := 34) hx hb dX12_fall_26 (by decide) (fun c3 => ?_) (fun c3 => ?_)
      · replace hf := ite_f hf c3
        refine lv_aload_n hx hb dX12_fall_34 rfl (lv_at hl 0 rfl) ?_
        refine lv_iload_n hx hb dX12_fall_35 rfl (lv_at hl 1 rfl) ?_
        refine lv_bipush (v := 20) hx hb dX12_fall_36 (by decide) ?_
        refine w_irem C (by decide) dX12_fall_38 ?_
        refine lv_iload_n hx hb dX12_fall_39 rfl (lv_at hl 1 rfl) ?_
        refine lv_bipush (v := 20) hx hb dX12_fall_40 (by decide) ?_
        refine lv_idiv hx hb dX12_fall_42 (by decide) ?_
        refine lv_iload_n hx hb dX12_fall_43 rfl (lv_at hl 2 rfl) ?_
        obtain ⟨r4, k5, hf⟩ := bd_some hf
        refine w_goI hw (w_runV (rest := []) C hw (zX12_addFall _ _ st (rmI a1 (20 : Int32)) (a1 / (20 : Int32)) a2 r4 k5) (by decide) (EM_0 X _ _) rfl km_X12_164 ki_yX12_addFall kv_X12_addFall kz_X12 kc_X12_addFall rfl ok_yX12_addFall ⟨Nat.le_of_ble_eq_true rfl, Nat.le_of_ble_eq_true rfl⟩ rfl rfl rfl rfl hl.1 (Nat.le_of_ble_eq_true rfl) dX12_fall_44 ⟨Nat.zero_le _, Nat.zero_le _⟩) (fun H locs hw => ?_)
        exact w_iret C hw hr (so2 hf).1 (so2 hf).2 dX12_fall_47
      · replace hf := ite_t hf c3
        refine lv_bipush (v := -3) hx hb dX12_fall_29 (by decide) ?_
        refine lv_goto (tgt := 47) hx hb dX12_fall_31 (by decide) ?_
        exact w_iret C hw hr (so2 hf).1 (so2 hf).2 dX12_fall_47
    · replace hf := ite_t hf c2
      refine lv_iconst (v := -1) hx hb dX12_fall_18 (by decide) ?_
      exact w_iret C hw hr (so2 hf).1 (so2 hf).2 dX12_fall_19
theorem dX12_isShelf_0 : decode cX12_isShelf 0 = .ok (.iload_n 0, 1) := by decide +kernel
theorem dX12_isShelf_1 : decode cX12_isShelf 1 = .ok (.iconst 0, 1) := by decide +kernel
theorem dX12_isShelf_2 : decode cX12_isShelf 2 = .ok (.iconst 5, 1) := by decide +kernel
theorem dX12_isShelf_3 : decode cX12_isShelf 3 = .ok (.invokestatic 147, 3) := by decide +kernel
theorem dX12_isShelf_6 : decode cX12_isShelf 6 = .ok (.ireturn, 1) := by decide +kernel
theorem ok_yX12_isShelf : yOk yX12_isShelf 1 := ⟨by decide +kernel, by decide +kernel, by decide +kernel⟩
def fX12_isShelf (a0 : Int32) : Bool := (fX12_in a0 (0 : Int32) (5 : Int32))
set_option maxHeartbeats 4000000 in
theorem zX12_isShelf (l : Launch) (X : WX) (st : St) (a0 : Int32) : CtI l yX12_isShelf cX12_isShelf 1 .boolean ({ frames := 1, cells := 0, slots := 0, locals := 22 }) EM 43 X [.int a0] st (bI (fX12_isShelf a0)) st := by
  generalize hf : fX12_isShelf a0 = R
  refine ct_in (own := RX12) (by decide +kernel) rfl (Nat.le_of_ble_eq_true rfl) (fun p e s m below meth c C hr hw ls hl => ?_)
  obtain ⟨hx, hb, hml, hown, hts⟩ := id C.1
  have hl : lv_has ls 1 [(0, .int a0)] := hl
  unfold fX12_isShelf at hf
  refine lv_iload_n hx hb dX12_isShelf_0 rfl (lv_at hl 0 rfl) ?_
  refine lv_iconst (v := 0) hx hb dX12_isShelf_1 (by decide) ?_
  refine lv_iconst (v := 5) hx hb dX12_isShelf_2 (by decide) ?_
  refine w_goI hw (w_runS (rest := []) C hw (zX12_in _ _ st a0 (0 : Int32) (5 : Int32)) km_X12_147 kt_yX12_in kz_X12 kc_X12_in ok_yX12_in ⟨Nat.le_of_ble_eq_true rfl, Nat.le_of_ble_eq_true rfl⟩ rfl rfl rfl rfl hl.1 (Nat.le_of_ble_eq_true rfl) dX12_isShelf_3 ⟨Nat.zero_le _, Nat.zero_le _⟩) (fun H locs hw => ?_)
  exact w_zret (b := (fX12_in a0 (0 : Int32) (5 : Int32))) C hw hr rfl hf rfl dX12_isShelf_6
theorem dX12_falls_0 : decode cX12_falls 0 = .ok (.iload_n 1, 1) := by decide +kernel
theorem dX12_falls_1 : decode cX12_falls 1 = .ok (.invokestatic 168, 3) := by decide +kernel
theorem dX12_falls_4 : decode cX12_falls 4 = .ok (.ifCond .eq 13, 3) := by decide +kernel
theorem dX12_falls_7 : decode cX12_falls 7 = .ok (.iload_n 3, 1) := by decide +kernel
theorem dX12_falls_8 : decode cX12_falls 8 = .ok (.iconst 1, 1) := by decide +kernel
theorem dX12_falls_9 : decode cX12_falls 9 = .ok (.bipush 10, 2) := by decide +kernel
theorem dX12_falls_11 : decode cX12_falls 11 = .ok (.invokestatic 147, 3) := by decide +kernel
theorem dX12_falls_14 : decode cX12_falls 14 = .ok (.ifCond .ne 5, 3) := by decide +kernel
theorem dX12_falls_17 : decode cX12_falls 17 = .ok (.iconst (-1), 1) := by decide +kernel
theorem dX12_falls_18 : decode cX12_falls 18 = .ok (.ireturn, 1) := by decide +kernel
theorem dX12_falls_19 : decode cX12_falls 19 = .ok (.aload_n 0, 1) := by decide +kernel
theorem dX12_falls_20 : decode cX12_falls 20 = .ok (.getfield 127, 3) := by decide +kernel
theorem dX12_falls_23 : decode cX12_falls 23 = .ok (.iload_n 1, 1) := by decide +kernel
theorem dX12_falls_24 : decode cX12_falls 24 = .ok (.iaload, 1) := by decide +kernel
theorem dX12_falls_25 : decode cX12_falls 25 = .ok (.iconst (-1), 1) := by decide +kernel
theorem dX12_falls_26 : decode cX12_falls 26 = .ok (.if_icmp .eq 17, 3) := by decide +kernel
theorem dX12_falls_29 : decode cX12_falls 29 = .ok (.aload_n 0, 1) := by decide +kernel
theorem dX12_falls_30 : decode cX12_falls 30 = .ok (.getfield 127, 3) := by decide +kernel
theorem dX12_falls_33 : decode cX12_falls 33 = .ok (.iload_n 1, 1) := by decide +kernel
theorem dX12_falls_34 : decode cX12_falls 34 = .ok (.iaload, 1) := by decide +kernel
theorem dX12_falls_35 : decode cX12_falls 35 = .ok (.bipush (-3), 2) := by decide +kernel
theorem dX12_falls_37 : decode cX12_falls 37 = .ok (.if_icmp .eq 6, 3) := by decide +kernel
theorem dX12_falls_40 : decode cX12_falls 40 = .ok (.bipush (-12), 2) := by decide +kernel
theorem dX12_falls_42 : decode cX12_falls 42 = .ok (.ireturn, 1) := by decide +kernel
theorem dX12_falls_43 : decode cX12_falls 43 = .ok (.aload_n 0, 1) := by decide +kernel
theorem dX12_falls_44 : decode cX12_falls 44 = .ok (.getfield 127, 3) := by decide +kernel
theorem dX12_falls_47 : decode cX12_falls 47 = .ok (.iload_n 1, 1) := by decide +kernel
theorem dX12_falls_48 : decode cX12_falls 48 = .ok (.iaload, 1) := by decide +kernel
theorem dX12_falls_49 : decode cX12_falls 49 = .ok (.iconst (-1), 1) := by decide +kernel
theorem dX12_falls_50 : decode cX12_falls 50 = .ok (.if_icmp .ne 5, 3) := by decide +kernel
theorem dX12_falls_53 : decode cX12_falls 53 = .ok (.iconst 0, 1) := by decide +kernel
theorem dX12_falls_54 : decode cX12_falls 54 = .ok (.ireturn, 1) := by decide +kernel
theorem dX12_falls_55 : decode cX12_falls 55 = .ok (.iconst 0, 1) := by decide +kernel
theorem dX12_falls_56 : decode cX12_falls 56 = .ok (.istore 4, 2) := by decide +kernel
theorem dX12_falls_58 : decode cX12_falls 58 = .ok (.iload 4, 2) := by decide +kernel
theorem dX12_falls_60 : decode cX12_falls 60 = .ok (.iload_n 3, 1) := by decide +kernel
theorem dX12_falls_61 : decode cX12_falls 61 = .ok (.if_icmp .ge 153, 3) := by decide +kernel
theorem dX12_falls_64 : decode cX12_falls 64 = .ok (.iload_n 2, 1) := by decide +kernel
theorem dX12_falls_65 : decode cX12_falls 65 = .ok (.i2l, 1) := by decide +kernel
theorem dX12_falls_66 : decode cX12_falls 66 = .ok (.iconst 3, 1) := by decide +kernel
theorem dX12_falls_67 : decode cX12_falls 67 = .ok (.iload 4, 2) := by decide +kernel
theorem dX12_falls_69 : decode cX12_falls 69 = .ok (.imul, 1) := by decide +kernel
theorem dX12_falls_70 : decode cX12_falls 70 = .ok (.i2l, 1) := by decide +kernel
theorem dX12_falls_71 : decode cX12_falls 71 = .ok (.ladd, 1) := by decide +kernel
theorem dX12_falls_72 : decode cX12_falls 72 = .ok (.lstore 5, 2) := by decide +kernel
theorem dX12_falls_74 : decode cX12_falls 74 = .ok (.lload 5, 2) := by decide +kernel
theorem dX12_falls_76 : decode cX12_falls 76 = .ok (.lconst 0, 1) := by decide +kernel
theorem dX12_falls_77 : decode cX12_falls 77 = .ok (.lcmp, 1) := by decide +kernel
theorem dX12_falls_78 : decode cX12_falls 78 = .ok (.ifCond .lt 29, 3) := by decide +kernel
theorem dX12_falls_81 : decode cX12_falls 81 = .ok (.lload 5, 2) := by decide +kernel
theorem dX12_falls_83 : decode cX12_falls 83 = .ok (.ldc2_w 171, 3) := by decide +kernel
theorem dX12_falls_86 : decode cX12_falls 86 = .ok (.ladd, 1) := by decide +kernel
theorem dX12_falls_87 : decode cX12_falls 87 = .ok (.aload_n 0, 1) := by decide +kernel
theorem dX12_falls_88 : decode cX12_falls 88 = .ok (.getfield 130, 3) := by decide +kernel
theorem dX12_falls_91 : decode cX12_falls 91 = .ok (.iload_n 1, 1) := by decide +kernel
theorem dX12_falls_92 : decode cX12_falls 92 = .ok (.iaload, 1) := by decide +kernel
theorem dX12_falls_93 : decode cX12_falls 93 = .ok (.i2l, 1) := by decide +kernel
theorem dX12_falls_94 : decode cX12_falls 94 = .ok (.lcmp, 1) := by decide +kernel
theorem dX12_falls_95 : decode cX12_falls 95 = .ok (.ifCond .ge 12, 3) := by decide +kernel
theorem dX12_falls_98 : decode cX12_falls 98 = .ok (.aload_n 0, 1) := by decide +kernel
theorem dX12_falls_99 : decode cX12_falls 99 = .ok (.getfield 151, 3) := by decide +kernel
theorem dX12_falls_102 : decode cX12_falls 102 = .ok (.bipush 10, 2) := by decide +kernel
theorem dX12_falls_104 : decode cX12_falls 104 = .ok (.if_icmp .ne 6, 3) := by decide +kernel
theorem dX12_falls_107 : decode cX12_falls 107 = .ok (.iload 4, 2) := by decide +kernel
theorem dX12_falls_109 : decode cX12_falls 109 = .ok (.ireturn, 1) := by decide +kernel
theorem dX12_falls_110 : decode cX12_falls 110 = .ok (.bipush 60, 2) := by decide +kernel
theorem dX12_falls_112 : decode cX12_falls 112 = .ok (.iload_n 1, 1) := by decide +kernel
theorem dX12_falls_113 : decode cX12_falls 113 = .ok (.imul, 1) := by decide +kernel
theorem dX12_falls_114 : decode cX12_falls 114 = .ok (.lload 5, 2) := by decide +kernel
theorem dX12_falls_116 : decode cX12_falls 116 = .ok (.l2i, 1) := by decide +kernel
theorem dX12_falls_117 : decode cX12_falls 117 = .ok (.iadd, 1) := by decide +kernel
theorem dX12_falls_118 : decode cX12_falls 118 = .ok (.istore 7, 2) := by decide +kernel
theorem dX12_falls_120 : decode cX12_falls 120 = .ok (.aload_n 0, 1) := by decide +kernel
theorem dX12_falls_121 : decode cX12_falls 121 = .ok (.getfield 133, 3) := by decide +kernel
theorem dX12_falls_124 : decode cX12_falls 124 = .ok (.iload 7, 2) := by decide +kernel
theorem dX12_falls_126 : decode cX12_falls 126 = .ok (.laload, 1) := by decide +kernel
theorem dX12_falls_127 : decode cX12_falls 127 = .ok (.l2i, 1) := by decide +kernel
theorem dX12_falls_128 : decode cX12_falls 128 = .ok (.iconst 0, 1) := by decide +kernel
theorem dX12_falls_129 : decode cX12_falls 129 = .ok (.bipush 19, 2) := by decide +kernel
theorem dX12_falls_131 : decode cX12_falls 131 = .ok (.invokestatic 147, 3) := by decide +kernel
theorem dX12_falls_134 : decode cX12_falls 134 = .ok (.ifCond .eq 38, 3) := by decide +kernel
theorem dX12_falls_137 : decode cX12_falls 137 = .ok (.aload_n 0, 1) := by decide +kernel
theorem dX12_falls_138 : decode cX12_falls 138 = .ok (.getfield 133, 3) := by decide +kernel
theorem dX12_falls_141 : decode cX12_falls 141 = .ok (.iload 7, 2) := by decide +kernel
theorem dX12_falls_143 : decode cX12_falls 143 = .ok (.iconst 1, 1) := by decide +kernel
theorem dX12_falls_144 : decode cX12_falls 144 = .ok (.iadd, 1) := by decide +kernel
theorem dX12_falls_145 : decode cX12_falls 145 = .ok (.laload, 1) := by decide +kernel
theorem dX12_falls_146 : decode cX12_falls 146 = .ok (.l2i, 1) := by decide +kernel
theorem dX12_falls_147 : decode cX12_falls 147 = .ok (.iconst 0, 1) := by decide +kernel
theorem dX12_falls_148 : decode cX12_falls 148 = .ok (.bipush 19, 2) := by decide +kernel
theorem dX12_falls_150 : decode cX12_falls 150 = .ok (.invokestatic 147, 3) := by decide +kernel
theorem dX12_falls_153 : decode cX12_falls 153 = .ok (.ifCond .eq 19, 3) := by decide +kernel
theorem dX12_falls_156 : decode cX12_falls 156 = .ok (.aload_n 0, 1) := by decide +kernel
theorem dX12_falls_157 : decode cX12_falls 157 = .ok (.getfield 133, 3) := by decide +kernel
theorem dX12_falls_160 : decode cX12_falls 160 = .ok (.iload 7, 2) := by decide +kernel
theorem dX12_falls_162 : decode cX12_falls 162 = .ok (.iconst 2, 1) := by decide +kernel
theorem dX12_falls_163 : decode cX12_falls 163 = .ok (.iadd, 1) := by decide +kernel
theorem dX12_falls_164 : decode cX12_falls 164 = .ok (.laload, 1) := by decide +kernel
theorem dX12_falls_165 : decode cX12_falls 165 = .ok (.l2i, 1) := by decide +kernel
theorem dX12_falls_166 : decode cX12_falls 166 = .ok (.invokestatic 161, 3) := by decide +kernel
theorem dX12_falls_169 : decode cX12_falls 169 = .ok (.ifCond .ne 6, 3) := by decide +kernel
theorem dX12_falls_172 : decode cX12_falls 172 = .ok (.iload 4, 2) := by decide +kernel
theorem dX12_falls_174 : decode cX12_falls 174 = .ok (.ireturn, 1) := by decide +kernel
theorem dX12_falls_175 : decode cX12_falls 175 = .ok (.aload_n 0, 1) := by decide +kernel
theorem dX12_falls_176 : decode cX12_falls 176 = .ok (.aload_n 0, 1) := by decide +kernel
theorem dX12_falls_177 : decode cX12_falls 177 = .ok (.getfield 133, 3) := by decide +kernel
theorem dX12_falls_180 : decode cX12_falls 180 = .ok (.iload 7, 2) := by decide +kernel
theorem dX12_falls_182 : decode cX12_falls 182 = .ok (.laload, 1) := by decide +kernel
theorem dX12_falls_183 : decode cX12_falls 183 = .ok (.l2i, 1) := by decide +kernel
theorem dX12_falls_184 : decode cX12_falls 184 = .ok (.aload_n 0, 1) := by decide +kernel
theorem dX12_falls_185 : decode cX12_falls 185 = .ok (.getfield 133, 3) := by decide +kernel
theorem dX12_falls_188 : decode cX12_falls 188 = .ok (.iload 7, 2) := by decide +kernel
theorem dX12_falls_190 : decode cX12_falls 190 = .ok (.iconst 1, 1) := by decide +kernel
theorem dX12_falls_191 : decode cX12_falls 191 = .ok (.iadd, 1) := by decide +kernel
theorem dX12_falls_192 : decode cX12_falls 192 = .ok (.laload, 1) := by decide +kernel
theorem dX12_falls_193 : decode cX12_falls 193 = .ok (.l2i, 1) := by decide +kernel
theorem dX12_falls_194 : decode cX12_falls 194 = .ok (.aload_n 0, 1) := by decide +kernel
theorem dX12_falls_195 : decode cX12_falls 195 = .ok (.getfield 133, 3) := by decide +kernel
theorem dX12_falls_198 : decode cX12_falls 198 = .ok (.iload 7, 2) := by decide +kernel
theorem dX12_falls_200 : decode cX12_falls 200 = .ok (.iconst 2, 1) := by decide +kernel
theorem dX12_falls_201 : decode cX12_falls 201 = .ok (.iadd, 1) := by decide +kernel
theorem dX12_falls_202 : decode cX12_falls 202 = .ok (.laload, 1) := by decide +kernel
theorem dX12_falls_203 : decode cX12_falls 203 = .ok (.l2i, 1) := by decide +kernel
theorem dX12_falls_204 : decode cX12_falls 204 = .ok (.invokevirtual 164, 3) := by decide +kernel
theorem dX12_falls_207 : decode cX12_falls 207 = .ok (.pop, 1) := by decide +kernel
theorem dX12_falls_208 : decode cX12_falls 208 = .ok (.iinc 4 1, 3) := by decide +kernel
theorem dX12_falls_211 : decode cX12_falls 211 = .ok (.goto (-153), 3) := by decide +kernel
theorem dX12_falls_214 : decode cX12_falls 214 = .ok (.iload_n 3, 1) := by decide +kernel
theorem dX12_falls_215 : decode cX12_falls 215 = .ok (.ireturn, 1) := by decide +kernel
theorem ok_yX12_falls : yOk yX12_falls 3 := ⟨by decide +kernel, by decide +kernel, by decide +kernel⟩
def fX12_falls_58 (n : Nat) : Nat → St → Int32 → Int32 → Int32 → Int32 → Option (Int32 × St)
  | 0, _, _, _, _, _ => none
  | k + 1, st, v1, v2, v3, v4 => if v3 ≤ v4 then (some (v3, st)) else (bnd (v2.toInt64 + (((3 : Int32) * v4).toInt64)) (fun x10 => if lg_cmp x10 (0 : Int64) < 0 then (some (v4, st)) else (gd (inB v1 6) (if 0 ≤ lg_cmp (x10 + (2 : Int64)) ((gI st 40 v1.toNatClampNeg).toInt64) then (some (v4, st)) else (if gI st 0 8 = (10 : Int32) then (some (v4, st)) else (bnd (((60 : Int32) * v1) + x10.toInt32) (fun x16 => gd (inB x16 360) (if bI (fX12_in ((gL st 41 x16.toNatClampNeg).toInt32) (0 : Int32) (19 : Int32)) = 0 then (some (v4, st)) else (gd (inB (x16 + (1 : Int32)) 360) (if bI (fX12_in ((gL st 41 (x16 + (1 : Int32)).toNatClampNeg).toInt32) (0 : Int32) (19 : Int32)) = 0 then (some (v4, st)) else (gd (inB (x16 + (2 : Int32)) 360) (if bI (fX12_isMinute ((gL st 41 (x16 + (2 : Int32)).toNatClampNeg).toInt32)) = 0 then (some (v4, st)) else (gd (inB x16 360) (gd (inB (x16 + (1 : Int32)) 360) (gd (inB (x16 + (2 : Int32)) 360) ((fX12_addFall st ((gL st 41 x16.toNatClampNeg).toInt32) ((gL st 41 (x16 + (1 : Int32)).toNatClampNeg).toInt32) ((gL st 41 (x16 + (2 : Int32)).toNatClampNeg).toInt32)).bind (fun r27 => bnd (v4 + (1 : Int32)) (fun x29 => fX12_falls_58 n k r27.2 v1 v2 v3 x29))))))))))))))))))
set_option maxHeartbeats 4000000 in
theorem tX12_falls_58 {p : Program} {l : Launch} {e : Env} {s : State} {m : MethodId} {args : Array Value} {below : List Frame} {meth : Method} {c : Code} {X : WX} (C : Amb 43 X p s m args meth c cX12_falls 8 RX12) (hr : meth.sig.returnType = some .int) {R : Int32 × St} {n : Nat} : ∀ (k : Nat) (st : St) (v1 : Int32) (v2 : Int32) (v3 : Int32) (v4 : Int32) (H : Heap) (locs : List Loc) (ls : Array Slot), Wd EM 43 X s.heap st H locs → lv_has ls 8 [(0, .ref (xq X 0)), (1, .int v1), (2, .int v2), (3, .int v3), (4, .int v4)] → fX12_falls_58 n k st v1 v2 v3 v4 = some R → W p l e { frames := 2, cells := 0, slots := 0, locals := 42 } s m args below meth c H locs 0 0 (QI EM 43 X R.1 R.2 below args s) (F0 m 58 ls []) := by
  obtain ⟨hx, hb, hml, hown, hts⟩ := id C.1
  intro k
  induction k with
  | zero => intro st v1 v2 v3 v4 H locs ls  hw hl hf; exact absurd (show none = some R from hf) (fun z => by cases z)
  | succ k ih =>
    intro st v1 v2 v3 v4 H locs ls  hw hl hf
    rw [fX12_falls_58] at hf
    refine lv_iload hx hb dX12_falls_58 (lv_at hl 4 rfl) ?_
    refine lv_iload_n hx hb dX12_falls_60 rfl (lv_at hl 3 rfl) ?_
    refine lv_icmp_ge (tgt := 214) hx hb dX12_falls_61 (by decide) (fun c9 => ?_) (fun c9 => ?_)
    · replace hf := ite_t hf c9
      refine lv_iload_n hx hb dX12_falls_214 rfl (lv_at hl 3 rfl) ?_
      exact w_iret C hw hr (so2 hf).1 (so2 hf).2 dX12_falls_215
    · replace hf := ite_f hf c9
      refine lv_iload_n hx hb dX12_falls_64 rfl (lv_at hl 2 rfl) ?_
      refine lv_i2l (v := v2.toInt64) hx hb dX12_falls_65 rfl ?_
      refine lv_iconst (v := 3) hx hb dX12_falls_66 (by decide) ?_
      refine lv_iload hx hb dX12_falls_67 (lv_at hl 4 rfl) ?_
      refine lv_imul hx hb dX12_falls_69 ?_
      refine lv_i2l (v := ((3 : Int32) * v4).toInt64) hx hb dX12_falls_70 rfl ?_
      refine lv_ladd hx hb dX12_falls_71 ?_
      refine lv_topl (fun x10 e11 => ?_)
      replace hf := bnd_nm hf e11
      refine lv_lstore (lv' := [(5, .long x10), (0, .ref (xq X 0)), (1, .int v1), (2, .int v2), (3, .int v3), (4, .int v4)]) hx hb dX12_falls_72 hl (by decide) rfl (fun ls hl => ?_)
      refine lv_lload hx hb dX12_falls_74 (lv_at hl 0 rfl) ?_
      refine lv_lconst (v := 0) hx hb dX12_falls_76 (by decide) ?_
      refine W.lcmp hx hb dX12_falls_77 ?_
      refine lv_if_lt (tgt := 107) hx hb dX12_falls_78 (by decide) (fun c12 => ?_) (fun c12 => ?_)
      · replace hf := ite_t hf c12
        refine lv_iload hx hb dX12_falls_107 (lv_at hl 5 rfl) ?_
        exact w_iret C hw hr (so2 hf).1 (so2 hf).2 dX12_falls_109
      · replace hf := ite_f hf c12
        refine lv_lload hx hb dX12_falls_81 (lv_at hl 0 rfl) ?_
        refine lv_ldc2 (v := 2) hx hb hown (hts _ kn_X12_171) dX12_falls_83 ?_
        refine lv_ladd hx hb dX12_falls_86 ?_
        refine lv_aload_n hx hb dX12_falls_87 rfl (lv_at hl 1 rfl) ?_
        refine w_get (T := TX12) C hw (by decide) 55 kf_X12_130 (EM_0 X _ _) rfl inA12 (by decide) rfl dX12_falls_88 ?_
        refine lv_iload_n hx hb dX12_falls_91 rfl (lv_at hl 2 rfl) ?_
        obtain ⟨h13, hf⟩ := gd_some hf
        refine w_iald C hw (by decide) (EM_40 X _ _) h13 rfl dX12_falls_92 ?_
        refine lv_i2l (v := (gI st 40 v1.toNatClampNeg).toInt64) hx hb dX12_falls_93 rfl ?_
        refine W.lcmp hx hb dX12_falls_94 ?_
        refine lv_if_ge (tgt := 107) hx hb dX12_falls_95 (by decide) (fun c14 => ?_) (fun c14 => ?_)
        · replace hf := ite_t hf c14
          refine lv_iload hx hb dX12_falls_107 (lv_at hl 5 rfl) ?_
          exact w_iret C hw hr (so2 hf).1 (so2 hf).2 dX12_falls_109
        · replace hf := ite_f hf c14
          refine lv_aload_n hx hb dX12_falls_98 rfl (lv_at hl 1 rfl) ?_
          refine w_get (T := TX12) C hw (by decide) 8 kf_X12_151 (EM_0 X _ _) rfl inA12 (by decide) rfl dX12_falls_99 ?_
          refine lv_bipush (v := 10) hx hb dX12_falls_102 (by decide) ?_
          refine lv_icmp_ne (tgt := 110) hx hb dX12_falls_104 (by decide) (fun c15 => ?_) (fun c15 => ?_)
          · replace hf := ite_f hf c15
            refine lv_bipush (v := 60) hx hb dX12_falls_110 (by decide) ?_
            refine lv_iload_n hx hb dX12_falls_112 rfl (lv_at hl 2 rfl) ?_
            refine lv_imul hx hb dX12_falls_113 ?_
            refine lv_lload hx hb dX12_falls_114 (lv_at hl 0 rfl) ?_
            refine lv_l2i (v := x10.toInt32) hx hb dX12_falls_116 rfl ?_
            refine lv_iadd hx hb dX12_falls_117 ?_
            refine lv_topi (fun x16 e17 => ?_)
            replace hf := bnd_nm hf e17
            refine lv_istore (lv' := [(7, .int x16), (5, .long x10), (0, .ref (xq X 0)), (1, .int v1), (2, .int v2), (3, .int v3), (4, .int v4)]) hx hb dX12_falls_118 hl (by decide) rfl (fun ls hl => ?_)
            refine lv_aload_n hx hb dX12_falls_120 rfl (lv_at hl 2 rfl) ?_
            refine w_get (T := TX12) C hw (by decide) 56 kf_X12_133 (EM_0 X _ _) rfl inA12 (by decide) rfl dX12_falls_121 ?_
            refine lv_iload hx hb dX12_falls_124 (lv_at hl 0 rfl) ?_
            obtain ⟨h18, hf⟩ := gd_some hf
            refine w_lald C hw (by decide) (EM_41 X _ _) h18 rfl dX12_falls_126 ?_
            refine lv_l2i (v := (gL st 41 x16.toNatClampNeg).toInt32) hx hb dX12_falls_127 rfl ?_
            refine lv_iconst (v := 0) hx hb dX12_falls_128 (by decide) ?_
            refine lv_bipush (v := 19) hx hb dX12_falls_129 (by decide) ?_
            refine w_goI hw (w_runS (rest := []) C hw (zX12_in _ _ st ((gL st 41 x16.toNatClampNeg).toInt32) (0 : Int32) (19 : Int32)) km_X12_147 kt_yX12_in kz_X12 kc_X12_in ok_yX12_in ⟨Nat.le_of_ble_eq_true rfl, Nat.le_of_ble_eq_true rfl⟩ rfl rfl rfl rfl hl.1 (Nat.le_of_ble_eq_true rfl) dX12_falls_131 ⟨Nat.zero_le _, Nat.zero_le _⟩) (fun H locs hw => ?_)
            refine lv_if_eq (tgt := 172) hx hb dX12_falls_134 (by decide) (fun c19 => ?_) (fun c19 => ?_)
            · replace hf := ite_t hf c19
              refine lv_iload hx hb dX12_falls_172 (lv_at hl 6 rfl) ?_
              exact w_iret C hw hr (so2 hf).1 (so2 hf).2 dX12_falls_174
            · replace hf := ite_f hf c19
              refine lv_aload_n hx hb dX12_falls_137 rfl (lv_at hl 2 rfl) ?_
              refine w_get (T := TX12) C hw (by decide) 56 kf_X12_133 (EM_0 X _ _) rfl inA12 (by decide) rfl dX12_falls_138 ?_
              refine lv_iload hx hb dX12_falls_141 (lv_at hl 0 rfl) ?_
              refine lv_iconst (v := 1) hx hb dX12_falls_143 (by decide) ?_
              refine lv_iadd hx hb dX12_falls_144 ?_
              obtain ⟨h20, hf⟩ := gd_some hf
              refine w_lald C hw (by decide) (EM_41 X _ _) h20 rfl dX12_falls_145 ?_
              refine lv_l2i (v := (gL st 41 (x16 + (1 : Int32)).toNatClampNeg).toInt32) hx hb dX12_falls_146 rfl ?_
              refine lv_iconst (v := 0) hx hb dX12_falls_147 (by decide) ?_
              refine lv_bipush (v := 19) hx hb dX12_falls_148 (by decide) ?_
              refine w_goI hw (w_runS (rest := []) C hw (zX12_in _ _ st ((gL st 41 (x16 + (1 : Int32)).toNatClampNeg).toInt32) (0 : Int32) (19 : Int32)) km_X12_147 kt_yX12_in kz_X12 kc_X12_in ok_yX12_in ⟨Nat.le_of_ble_eq_true rfl, Nat.le_of_ble_eq_true rfl⟩ rfl rfl rfl rfl hl.1 (Nat.le_of_ble_eq_true rfl) dX12_falls_150 ⟨Nat.zero_le _, Nat.zero_le _⟩) (fun H locs hw => ?_)
              refine lv_if_eq (tgt := 172) hx hb dX12_falls_153 (by decide) (fun c21 => ?_) (fun c21 => ?_)
              · replace hf := ite_t hf c21
                refine lv_iload hx hb dX12_falls_172 (lv_at hl 6 rfl) ?_
                exact w_iret C hw hr (so2 hf).1 (so2 hf).2 dX12_falls_174
              · replace hf := ite_f hf c21
                refine lv_aload_n hx hb dX12_falls_156 rfl (lv_at hl 2 rfl) ?_
                refine w_get (T := TX12) C hw (by decide) 56 kf_X12_133 (EM_0 X _ _) rfl inA12 (by decide) rfl dX12_falls_157 ?_
                refine lv_iload hx hb dX12_falls_160 (lv_at hl 0 rfl) ?_
                refine lv_iconst (v := 2) hx hb dX12_falls_162 (by decide) ?_
                refine lv_iadd hx hb dX12_falls_163 ?_
                obtain ⟨h22, hf⟩ := gd_some hf
                refine w_lald C hw (by decide) (EM_41 X _ _) h22 rfl dX12_falls_164 ?_
                refine lv_l2i (v := (gL st 41 (x16 + (2 : Int32)).toNatClampNeg).toInt32) hx hb dX12_falls_165 rfl ?_
                refine w_goI hw (w_runS (rest := []) C hw (zX12_isMinute _ _ st ((gL st 41 (x16 + (2 : Int32)).toNatClampNeg).toInt32)) km_X12_161 kt_yX12_isMinute kz_X12 kc_X12_isMinute ok_yX12_isMinute ⟨Nat.le_of_ble_eq_true rfl, Nat.le_of_ble_eq_true rfl⟩ rfl rfl rfl rfl hl.1 (Nat.le_of_ble_eq_true rfl) dX12_falls_166 ⟨Nat.zero_le _, Nat.zero_le _⟩) (fun H locs hw => ?_)
                refine lv_if_ne (tgt := 175) hx hb dX12_falls_169 (by decide) (fun c23 => ?_) (fun c23 => ?_)
                · replace hf := ite_f hf c23
                  refine lv_aload_n hx hb dX12_falls_175 rfl (lv_at hl 2 rfl) ?_
                  refine lv_aload_n hx hb dX12_falls_176 rfl (lv_at hl 2 rfl) ?_
                  refine w_get (T := TX12) C hw (by decide) 56 kf_X12_133 (EM_0 X _ _) rfl inA12 (by decide) rfl dX12_falls_177 ?_
                  refine lv_iload hx hb dX12_falls_180 (lv_at hl 0 rfl) ?_
                  obtain ⟨h24, hf⟩ := gd_some hf
                  refine w_lald C hw (by decide) (EM_41 X _ _) h24 rfl dX12_falls_182 ?_
                  refine lv_l2i (v := (gL st 41 x16.toNatClampNeg).toInt32) hx hb dX12_falls_183 rfl ?_
                  refine lv_aload_n hx hb dX12_falls_184 rfl (lv_at hl 2 rfl) ?_
                  refine w_get (T := TX12) C hw (by decide) 56 kf_X12_133 (EM_0 X _ _) rfl inA12 (by decide) rfl dX12_falls_185 ?_
                  refine lv_iload hx hb dX12_falls_188 (lv_at hl 0 rfl) ?_
                  refine lv_iconst (v := 1) hx hb dX12_falls_190 (by decide) ?_
                  refine lv_iadd hx hb dX12_falls_191 ?_
                  obtain ⟨h25, hf⟩ := gd_some hf
                  refine w_lald C hw (by decide) (EM_41 X _ _) h25 rfl dX12_falls_192 ?_
                  refine lv_l2i (v := (gL st 41 (x16 + (1 : Int32)).toNatClampNeg).toInt32) hx hb dX12_falls_193 rfl ?_
                  refine lv_aload_n hx hb dX12_falls_194 rfl (lv_at hl 2 rfl) ?_
                  refine w_get (T := TX12) C hw (by decide) 56 kf_X12_133 (EM_0 X _ _) rfl inA12 (by decide) rfl dX12_falls_195 ?_
                  refine lv_iload hx hb dX12_falls_198 (lv_at hl 0 rfl) ?_
                  refine lv_iconst (v := 2) hx hb dX12_falls_200 (by decide) ?_
                  refine lv_iadd hx hb dX12_falls_201 ?_
                  obtain ⟨h26, hf⟩ := gd_some hf
                  refine w_lald C hw (by decide) (EM_41 X _ _) h26 rfl dX12_falls_202 ?_
                  refine lv_l2i (v := (gL st 41 (x16 + (2 : Int32)).toNatClampNeg).toInt32) hx hb dX12_falls_203 rfl ?_
                  obtain ⟨r27, k28, hf⟩ := bd_some hf
                  refine w_goI hw (w_runV (rest := []) C hw (zX12_addFall _ _ st ((gL st 41 x16.toNatClampNeg).toInt32) ((gL st 41 (x16 + (1 : Int32)).toNatClampNeg).toInt32) ((gL st 41 (x16 + (2 : Int32)).toNatClampNeg).toInt32) r27 k28) (by decide) (EM_0 X _ _) rfl km_X12_164 ki_yX12_addFall kv_X12_addFall kz_X12 kc_X12_addFall rfl ok_yX12_addFall ⟨Nat.le_of_ble_eq_true rfl, Nat.le_of_ble_eq_true rfl⟩ rfl rfl rfl rfl hl.1 (Nat.le_of_ble_eq_true rfl) dX12_falls_204 ⟨Nat.zero_le _, Nat.zero_le _⟩) (fun H locs hw => ?_)
                  refine lv_pop hx hb dX12_falls_207 rfl ?_
                  obtain ⟨x29, e30⟩ : ∃ z : Int32, z = v4 + (1 : Int32) := ⟨_, rfl⟩
                  replace hf := bnd_nm hf e30
                  refine lv_iinc (v := x29) (lv' := [(4, .int x29), (7, .int x16), (5, .long x10), (0, .ref (xq X 0)), (1, .int v1), (2, .int v2), (3, .int v3)]) hx hb dX12_falls_208 hl (k := 6) rfl (by rw [e30]; rfl) (by decide) rfl (fun ls hl => ?_)
                  refine lv_goto (tgt := 58) hx hb dX12_falls_211 (by decide) ?_
                  exact ih r27.2 v1 v2 v3 x29 _ _ _ hw (lv_sub hl [3, 4, 5, 6, 0] rfl) hf
                · replace hf := ite_t hf c23
                  refine lv_iload hx hb dX12_falls_172 (lv_at hl 6 rfl) ?_
                  exact w_iret C hw hr (so2 hf).1 (so2 hf).2 dX12_falls_174
          · replace hf := ite_t hf c15
            refine lv_iload hx hb dX12_falls_107 (lv_at hl 5 rfl) ?_
            exact w_iret C hw hr (so2 hf).1 (so2 hf).2 dX12_falls_109
def fX12_falls_43 (n : Nat) (st : St) (v1 : Int32) (v2 : Int32) (v3 : Int32) : Option (Int32 × St) := gd (inB v1 6) (if gI st 39 v1.toNatClampNeg = (-1 : Int32) then (some ((0 : Int32), st)) else (fX12_falls_58 n n st v1 v2 v3 (0 : Int32)))
set_option maxHeartbeats 4000000 in
theorem tX12_falls_43 {p : Program} {l : Launch} {e : Env} {s : State} {m : MethodId} {args : Array Value} {below : List Frame} {meth : Method} {c : Code} {X : WX} (C : Amb 43 X p s m args meth c cX12_falls 8 RX12) (hr : meth.sig.returnType = some .int) {R : Int32 × St} {n : Nat} : ∀ (st : St) (v1 : Int32) (v2 : Int32) (v3 : Int32) (H : Heap) (locs : List Loc) (ls : Array Slot), Wd EM 43 X s.heap st H locs → lv_has ls 8 [(0, .ref (xq X 0)), (1, .int v1), (2, .int v2), (3, .int v3)] → fX12_falls_43 n st v1 v2 v3 = some R → W p l e { frames := 2, cells := 0, slots := 0, locals := 42 } s m args below meth c H locs 0 0 (QI EM 43 X R.1 R.2 below args s) (F0 m 43 ls []) := by
  obtain ⟨hx, hb, hml, hown, hts⟩ := id C.1
  intro st v1 v2 v3 H locs ls  hw hl hf
  unfold fX12_falls_43 at hf
  refine lv_aload_n hx hb dX12_falls_43 rfl (lv_at hl 0 rfl) ?_
  refine w_get (T := TX12) C hw (by decide) 54 kf_X12_127 (EM_0 X _ _) rfl inA12 (by decide) rfl dX12_falls_44 ?_
  refine lv_iload_n hx hb dX12_falls_47 rfl (lv_at hl 1 rfl) ?_
  obtain ⟨h7, hf⟩ := gd_some hf
  refine w_iald C hw (by decide) (EM_39 X _ _) h7 rfl dX12_falls_48 ?_
  refine lv_iconst (v := -1) hx hb dX12_falls_49 (by decide) ?_
  refine lv_icmp_ne (tgt := 55) hx hb dX12_falls_50 (by decide) (fun c8 => ?_) (fun c8 => ?_)
  · replace hf := ite_f hf c8
    refine lv_iconst (v := 0) hx hb dX12_falls_55 (by decide) ?_
    refine lv_istore (lv' := [(4, .int (0 : Int32)), (0, .ref (xq X 0)), (1, .int v1), (2, .int v2), (3, .int v3)]) hx hb dX12_falls_56 hl (by decide) rfl (fun ls hl => ?_)
    exact tX12_falls_58 C hr n st v1 v2 v3 (0 : Int32) _ _ _ hw (lv_sub hl [1, 2, 3, 4, 0] rfl) hf
  · replace hf := ite_t hf c8
    refine lv_iconst (v := 0) hx hb dX12_falls_53 (by decide) ?_
    exact w_iret C hw hr (so2 hf).1 (so2 hf).2 dX12_falls_54
def fX12_falls (n : Nat) (st : St) (a1 : Int32) (a2 : Int32) (a3 : Int32) : Option (Int32 × St) := if bI (fX12_isShelf a1) = 0 then (some ((-1 : Int32), st)) else (if bI (fX12_in a3 (1 : Int32) (10 : Int32)) = 0 then (some ((-1 : Int32), st)) else (gd (inB a1 6) (if gI st 39 a1.toNatClampNeg = (-1 : Int32) then (fX12_falls_43 n st a1 a2 a3) else (gd (inB a1 6) (if gI st 39 a1.toNatClampNeg = (-3 : Int32) then (fX12_falls_43 n st a1 a2 a3) else (some ((-12 : Int32), st)))))))
set_option maxHeartbeats 4000000 in
theorem zX12_falls (l : Launch) (X : WX) (n : Nat) (st : St) (a1 : Int32) (a2 : Int32) (a3 : Int32) (R : Int32 × St) (hf : fX12_falls n st a1 a2 a3 = some R) : CtI l yX12_falls cX12_falls 8 .int ({ frames := 2, cells := 0, slots := 0, locals := 42 }) EM 43 X [.ref (xq X 0), .int a1, .int a2, .int a3] st R.1 R.2 := by
  refine ct_in (own := RX12) (by decide +kernel) rfl (Nat.le_of_ble_eq_true rfl) (fun p e s m below meth c C hr hw ls hl => ?_)
  obtain ⟨hx, hb, hml, hown, hts⟩ := id C.1
  have hl : lv_has ls 8 [(0, .ref (xq X 0)), (1, .int a1), (2, .int a2), (3, .int a3)] := hl
  unfold fX12_falls at hf
  refine lv_iload_n hx hb dX12_falls_0 rfl (lv_at hl 1 rfl) ?_
  refine w_goI hw (w_runS (rest := []) C hw (zX12_isShelf _ _ st a1) km_X12_168 kt_yX12_isShelf kz_X12 kc_X12_isShelf ok_yX12_isShelf ⟨Nat.le_of_ble_eq_true rfl, Nat.le_of_ble_eq_true rfl⟩ rfl rfl rfl rfl hl.1 (Nat.le_of_ble_eq_true rfl) dX12_falls_1 ⟨Nat.zero_le _, Nat.zero_le _⟩) (fun H locs hw => ?_)
  refine lv_if_eq (tgt := 17) hx hb dX12_falls_4 (by decide) (fun c1 => ?_) (fun c1 => ?_)
  · replace hf := ite_t hf c1
    refine lv_iconst (v := -1) hx hb dX12_falls_17 (by decide) ?_
    exact w_iret C hw hr (so2 hf).1 (so2 hf).2 dX12_falls_18
  · replace hf := ite_f hf c1
    refine lv_iload_n hx hb dX12_falls_7 rfl (lv_at hl 3 rfl) ?_
    refine lv_iconst (v := 1) hx hb dX12_falls_8 (by decide) ?_
    refine lv_bipush (v := 10) hx hb dX12_falls_9 (by decide) ?_
    refine w_goI hw (w_runS (rest := []) C hw (zX12_in _ _ st a3 (1 : Int32) (10 : Int32)) km_X12_147 kt_yX12_in kz_X12 kc_X12_in ok_yX12_in ⟨Nat.le_of_ble_eq_true rfl, Nat.le_of_ble_eq_true rfl⟩ rfl rfl rfl rfl hl.1 (Nat.le_of_ble_eq_true rfl) dX12_falls_11 ⟨Nat.zero_le _, Nat.zero_le _⟩) (fun H locs hw => ?_)
    refine lv_if_ne (tgt := 19) hx hb dX12_falls_14 (by decide) (fun c2 => ?_) (fun c2 => ?_)
    · replace hf := ite_f hf c2
      refine lv_aload_n hx hb dX12_falls_19 rfl (lv_at hl 0 rfl) ?_
      refine w_get (T := TX12) C hw (by decide) 54 kf_X12_127 (EM_0 X _ _) rfl inA12 (by decide) rfl dX12_falls_20 ?_
      refine lv_iload_n hx hb dX12_falls_23 rfl (lv_at hl 1 rfl) ?_
      obtain ⟨h3, hf⟩ := gd_some hf
      refine w_iald C hw (by decide) (EM_39 X _ _) h3 rfl dX12_falls_24 ?_
      refine lv_iconst (v := -1) hx hb dX12_falls_25 (by decide) ?_
      refine lv_icmp_eq (tgt := 43) hx hb dX12_falls_26 (by decide) (fun c4 => ?_) (fun c4 => ?_)
      · replace hf := ite_t hf c4
        exact tX12_falls_43 C hr st a1 a2 a3 _ _ _ hw (lv_sub hl [0, 1, 2, 3] rfl) hf
      · replace hf := ite_f hf c4
        refine lv_aload_n hx hb dX12_falls_29 rfl (lv_at hl 0 rfl) ?_
        refine w_get (T := TX12) C hw (by decide) 54 kf_X12_127 (EM_0 X _ _) rfl inA12 (by decide) rfl dX12_falls_30 ?_
        refine lv_iload_n hx hb dX12_falls_33 rfl (lv_at hl 1 rfl) ?_
        obtain ⟨h5, hf⟩ := gd_some hf
        refine w_iald C hw (by decide) (EM_39 X _ _) h5 rfl dX12_falls_34 ?_
        refine lv_bipush (v := -3) hx hb dX12_falls_35 (by decide) ?_
        refine lv_icmp_eq (tgt := 43) hx hb dX12_falls_37 (by decide) (fun c6 => ?_) (fun c6 => ?_)
        · replace hf := ite_t hf c6
          exact tX12_falls_43 C hr st a1 a2 a3 _ _ _ hw (lv_sub hl [0, 1, 2, 3] rfl) hf
        · replace hf := ite_f hf c6
          refine lv_bipush (v := -12) hx hb dX12_falls_40 (by decide) ?_
          exact w_iret C hw hr (so2 hf).1 (so2 hf).2 dX12_falls_42
    · replace hf := ite_t hf c2
      refine lv_iconst (v := -1) hx hb dX12_falls_17 (by decide) ?_
      exact w_iret C hw hr (so2 hf).1 (so2 hf).2 dX12_falls_18
theorem dX12_addCry_0 : decode cX12_addCry 0 = .ok (.aload_n 0, 1) := by decide +kernel
theorem dX12_addCry_1 : decode cX12_addCry 1 = .ok (.getfield 40, 3) := by decide +kernel
theorem dX12_addCry_4 : decode cX12_addCry 4 = .ok (.aload_n 0, 1) := by decide +kernel
theorem dX12_addCry_5 : decode cX12_addCry 5 = .ok (.getfield 154, 3) := by decide +kernel
theorem dX12_addCry_8 : decode cX12_addCry 8 = .ok (.iload_n 1, 1) := by decide +kernel
theorem dX12_addCry_9 : decode cX12_addCry 9 = .ok (.iastore, 1) := by decide +kernel
theorem dX12_addCry_10 : decode cX12_addCry 10 = .ok (.aload_n 0, 1) := by decide +kernel
theorem dX12_addCry_11 : decode cX12_addCry 11 = .ok (.getfield 43, 3) := by decide +kernel
theorem dX12_addCry_14 : decode cX12_addCry 14 = .ok (.aload_n 0, 1) := by decide +kernel
theorem dX12_addCry_15 : decode cX12_addCry 15 = .ok (.getfield 154, 3) := by decide +kernel
theorem dX12_addCry_18 : decode cX12_addCry 18 = .ok (.iload_n 2, 1) := by decide +kernel
theorem dX12_addCry_19 : decode cX12_addCry 19 = .ok (.iastore, 1) := by decide +kernel
theorem dX12_addCry_20 : decode cX12_addCry 20 = .ok (.aload_n 0, 1) := by decide +kernel
theorem dX12_addCry_21 : decode cX12_addCry 21 = .ok (.getfield 46, 3) := by decide +kernel
theorem dX12_addCry_24 : decode cX12_addCry 24 = .ok (.aload_n 0, 1) := by decide +kernel
theorem dX12_addCry_25 : decode cX12_addCry 25 = .ok (.getfield 154, 3) := by decide +kernel
theorem dX12_addCry_28 : decode cX12_addCry 28 = .ok (.iload_n 3, 1) := by decide +kernel
theorem dX12_addCry_29 : decode cX12_addCry 29 = .ok (.iastore, 1) := by decide +kernel
theorem dX12_addCry_30 : decode cX12_addCry 30 = .ok (.aload_n 0, 1) := by decide +kernel
theorem dX12_addCry_31 : decode cX12_addCry 31 = .ok (.getfield 49, 3) := by decide +kernel
theorem dX12_addCry_34 : decode cX12_addCry 34 = .ok (.aload_n 0, 1) := by decide +kernel
theorem dX12_addCry_35 : decode cX12_addCry 35 = .ok (.getfield 154, 3) := by decide +kernel
theorem dX12_addCry_38 : decode cX12_addCry 38 = .ok (.iload 4, 2) := by decide +kernel
theorem dX12_addCry_40 : decode cX12_addCry 40 = .ok (.iastore, 1) := by decide +kernel
theorem dX12_addCry_41 : decode cX12_addCry 41 = .ok (.aload_n 0, 1) := by decide +kernel
theorem dX12_addCry_42 : decode cX12_addCry 42 = .ok (.dup, 1) := by decide +kernel
theorem dX12_addCry_43 : decode cX12_addCry 43 = .ok (.getfield 154, 3) := by decide +kernel
theorem dX12_addCry_46 : decode cX12_addCry 46 = .ok (.iconst 1, 1) := by decide +kernel
theorem dX12_addCry_47 : decode cX12_addCry 47 = .ok (.iadd, 1) := by decide +kernel
theorem dX12_addCry_48 : decode cX12_addCry 48 = .ok (.putfield 154, 3) := by decide +kernel
theorem dX12_addCry_51 : decode cX12_addCry 51 = .ok (.aload_n 0, 1) := by decide +kernel
theorem dX12_addCry_52 : decode cX12_addCry 52 = .ok (.getfield 154, 3) := by decide +kernel
theorem dX12_addCry_55 : decode cX12_addCry 55 = .ok (.iconst 1, 1) := by decide +kernel
theorem dX12_addCry_56 : decode cX12_addCry 56 = .ok (.isub, 1) := by decide +kernel
theorem dX12_addCry_57 : decode cX12_addCry 57 = .ok (.ireturn, 1) := by decide +kernel
theorem ok_yX12_addCry : yOk yX12_addCry 4 := ⟨by decide +kernel, by decide +kernel, by decide +kernel⟩
def fX12_addCry (st : St) (a1 : Int32) (a2 : Int32) (a3 : Int32) (a4 : Int32) : Option (Int32 × St) := gd (inB (gI st 0 13) 13) (bnd (sI st 11 (gI st 0 13).toNatClampNeg a1) (fun st2 => gd (inB (gI st2 0 13) 13) (bnd (sI st2 12 (gI st2 0 13).toNatClampNeg a2) (fun st5 => gd (inB (gI st5 0 13) 13) (bnd (sI st5 13 (gI st5 0 13).toNatClampNeg a3) (fun st8 => gd (inB (gI st8 0 13) 13) (bnd (sI st8 14 (gI st8 0 13).toNatClampNeg a4) (fun st11 => bnd (sI st11 0 13 ((gI st11 0 13) + (1 : Int32))) (fun st13 => some (((gI st13 0 13) - (1 : Int32)), st13))))))))))
set_option maxHeartbeats 4000000 in
theorem zX12_addCry (l : Launch) (X : WX) (st : St) (a1 : Int32) (a2 : Int32) (a3 : Int32) (a4 : Int32) (R : Int32 × St) (hf : fX12_addCry st a1 a2 a3 a4 = some R) : CtI l yX12_addCry cX12_addCry 5 .int ({ frames := 0, cells := 0, slots := 0, locals := 0 }) EM 43 X [.ref (xq X 0), .int a1, .int a2, .int a3, .int a4] st R.1 R.2 := by
  refine ct_in (own := RX12) (by decide +kernel) rfl (Nat.le_of_ble_eq_true rfl) (fun p e s m below meth c C hr hw ls hl => ?_)
  obtain ⟨hx, hb, hml, hown, hts⟩ := id C.1
  have hl : lv_has ls 5 [(0, .ref (xq X 0)), (1, .int a1), (2, .int a2), (3, .int a3), (4, .int a4)] := hl
  unfold fX12_addCry at hf
  refine lv_aload_n hx hb dX12_addCry_0 rfl (lv_at hl 0 rfl) ?_
  refine w_get (T := TX12) C hw (by decide) 14 kf_X12_40 (EM_0 X _ _) rfl inA12 (by decide) rfl dX12_addCry_1 ?_
  refine lv_aload_n hx hb dX12_addCry_4 rfl (lv_at hl 0 rfl) ?_
  refine w_get (T := TX12) C hw (by decide) 13 kf_X12_154 (EM_0 X _ _) rfl inA12 (by decide) rfl dX12_addCry_5 ?_
  refine lv_iload_n hx hb dX12_addCry_8 rfl (lv_at hl 1 rfl) ?_
  obtain ⟨h1, hf⟩ := gd_some hf
  obtain ⟨st2, es3⟩ : ∃ z : St, z = sI st 11 (gI st 0 13).toNatClampNeg a1 := ⟨_, rfl⟩
  replace hf := bnd_nm hf es3
  refine w_iast C hw (by decide) (fun f9 => EM_11 X f9 _) h1 rfl dX12_addCry_9 (fun H locs hw => ?_)
  rw [← es3] at hw
  refine lv_aload_n hx hb dX12_addCry_10 rfl (lv_at hl 0 rfl) ?_
  refine w_get (T := TX12) C hw (by decide) 15 kf_X12_43 (EM_0 X _ _) rfl inA12 (by decide) rfl dX12_addCry_11 ?_
  refine lv_aload_n hx hb dX12_addCry_14 rfl (lv_at hl 0 rfl) ?_
  refine w_get (T := TX12) C hw (by decide) 13 kf_X12_154 (EM_0 X _ _) rfl inA12 (by decide) rfl dX12_addCry_15 ?_
  refine lv_iload_n hx hb dX12_addCry_18 rfl (lv_at hl 2 rfl) ?_
  obtain ⟨h4, hf⟩ := gd_some hf
  obtain ⟨st5, es6⟩ : ∃ z : St, z = sI st2 12 (gI st2 0 13).toNatClampNeg a2 := ⟨_, rfl⟩
  replace hf := bnd_nm hf es6
  refine w_iast C hw (by decide) (fun f9 => EM_12 X f9 _) h4 rfl dX12_addCry_19 (fun H locs hw => ?_)
  rw [← es6] at hw
  refine lv_aload_n hx hb dX12_addCry_20 rfl (lv_at hl 0 rfl) ?_
  refine w_get (T := TX12) C hw (by decide) 16 kf_X12_46 (EM_0 X _ _) rfl inA12 (by decide) rfl dX12_addCry_21 ?_
  refine lv_aload_n hx hb dX12_addCry_24 rfl (lv_at hl 0 rfl) ?_
  refine w_get (T := TX12) C hw (by decide) 13 kf_X12_154 (EM_0 X _ _) rfl inA12 (by decide) rfl dX12_addCry_25 ?_
  refine lv_iload_n hx hb dX12_addCry_28 rfl (lv_at hl 3 rfl) ?_
  obtain ⟨h7, hf⟩ := gd_some hf
  obtain ⟨st8, es9⟩ : ∃ z : St, z = sI st5 13 (gI st5 0 13).toNatClampNeg a3 := ⟨_, rfl⟩
  replace hf := bnd_nm hf es9
  refine w_iast C hw (by decide) (fun f9 => EM_13 X f9 _) h7 rfl dX12_addCry_29 (fun H locs hw => ?_)
  rw [← es9] at hw
  refine lv_aload_n hx hb dX12_addCry_30 rfl (lv_at hl 0 rfl) ?_
  refine w_get (T := TX12) C hw (by decide) 17 kf_X12_49 (EM_0 X _ _) rfl inA12 (by decide) rfl dX12_addCry_31 ?_
  refine lv_aload_n hx hb dX12_addCry_34 rfl (lv_at hl 0 rfl) ?_
  refine w_get (T := TX12) C hw (by decide) 13 kf_X12_154 (EM_0 X _ _) rfl inA12 (by decide) rfl dX12_addCry_35 ?_
  refine lv_iload hx hb dX12_addCry_38 (lv_at hl 4 rfl) ?_
  obtain ⟨h10, hf⟩ := gd_some hf
  obtain ⟨st11, es12⟩ : ∃ z : St, z = sI st8 14 (gI st8 0 13).toNatClampNeg a4 := ⟨_, rfl⟩
  replace hf := bnd_nm hf es12
  refine w_iast C hw (by decide) (fun f9 => EM_14 X f9 _) h10 rfl dX12_addCry_40 (fun H locs hw => ?_)
  rw [← es12] at hw
  refine lv_aload_n hx hb dX12_addCry_41 rfl (lv_at hl 0 rfl) ?_
  refine lv_dup hx hb dX12_addCry_42 rfl ?_
  refine w_get (T := TX12) C hw (by decide) 13 kf_X12_154 (EM_0 X _ _) rfl inA12 (by decide) rfl dX12_addCry_43 ?_
  refine lv_iconst (v := 1) hx hb dX12_addCry_46 (by decide) ?_
  refine lv_iadd hx hb dX12_addCry_47 ?_
  obtain ⟨st13, es14⟩ : ∃ z : St, z = sI st11 0 13 ((gI st11 0 13) + (1 : Int32)) := ⟨_, rfl⟩
  replace hf := bnd_nm hf es14
  refine w_puti (T := TX12) C hw (by decide) 13 kf_X12_154 (EM_0 X _ _) rfl inA12 tyX12_ok nmX12 (by decide) rfl rfl (Nat.le_of_ble_eq_true rfl) rfl dX12_addCry_48 (fun H locs hw => ?_)
  rw [← es14] at hw
  refine lv_aload_n hx hb dX12_addCry_51 rfl (lv_at hl 0 rfl) ?_
  refine w_get (T := TX12) C hw (by decide) 13 kf_X12_154 (EM_0 X _ _) rfl inA12 (by decide) rfl dX12_addCry_52 ?_
  refine lv_iconst (v := 1) hx hb dX12_addCry_55 (by decide) ?_
  refine lv_isub hx hb dX12_addCry_56 ?_
  exact w_iret C hw hr (so2 hf).1 (so2 hf).2 dX12_addCry_57
theorem dX12_cry_0 : decode cX12_cry 0 = .ok (.iload_n 1, 1) := by decide +kernel
theorem dX12_cry_1 : decode cX12_cry 1 = .ok (.invokestatic 173, 3) := by decide +kernel
theorem dX12_cry_4 : decode cX12_cry 4 = .ok (.ifCond .eq 10, 3) := by decide +kernel
theorem dX12_cry_7 : decode cX12_cry 7 = .ok (.iload_n 2, 1) := by decide +kernel
theorem dX12_cry_8 : decode cX12_cry 8 = .ok (.invokestatic 161, 3) := by decide +kernel
theorem dX12_cry_11 : decode cX12_cry 11 = .ok (.ifCond .ne 5, 3) := by decide +kernel
theorem dX12_cry_14 : decode cX12_cry 14 = .ok (.iconst (-1), 1) := by decide +kernel
theorem dX12_cry_15 : decode cX12_cry 15 = .ok (.ireturn, 1) := by decide +kernel
theorem dX12_cry_16 : decode cX12_cry 16 = .ok (.aload_n 0, 1) := by decide +kernel
theorem dX12_cry_17 : decode cX12_cry 17 = .ok (.getfield 154, 3) := by decide +kernel
theorem dX12_cry_20 : decode cX12_cry 20 = .ok (.bipush 12, 2) := by decide +kernel
theorem dX12_cry_22 : decode cX12_cry 22 = .ok (.if_icmp .ne 8, 3) := by decide +kernel
theorem dX12_cry_25 : decode cX12_cry 25 = .ok (.bipush (-3), 2) := by decide +kernel
theorem dX12_cry_27 : decode cX12_cry 27 = .ok (.goto 11, 3) := by decide +kernel
theorem dX12_cry_30 : decode cX12_cry 30 = .ok (.aload_n 0, 1) := by decide +kernel
theorem dX12_cry_31 : decode cX12_cry 31 = .ok (.iload_n 1, 1) := by decide +kernel
theorem dX12_cry_32 : decode cX12_cry 32 = .ok (.iload_n 2, 1) := by decide +kernel
theorem dX12_cry_33 : decode cX12_cry 33 = .ok (.iconst 0, 1) := by decide +kernel
theorem dX12_cry_34 : decode cX12_cry 34 = .ok (.iconst 5, 1) := by decide +kernel
theorem dX12_cry_35 : decode cX12_cry 35 = .ok (.invokevirtual 176, 3) := by decide +kernel
theorem dX12_cry_38 : decode cX12_cry 38 = .ok (.ireturn, 1) := by decide +kernel
theorem ok_yX12_cry : yOk yX12_cry 2 := ⟨by decide +kernel, by decide +kernel, by decide +kernel⟩
def fX12_cry (st : St) (a1 : Int32) (a2 : Int32) : Option (Int32 × St) := if bI (fX12_isPerson a1) = 0 then (some ((-1 : Int32), st)) else (if bI (fX12_isMinute a2) = 0 then (some ((-1 : Int32), st)) else (if gI st 0 13 = (12 : Int32) then (some ((-3 : Int32), st)) else ((fX12_addCry st a1 a2 (0 : Int32) (5 : Int32)).bind (fun r4 => some (r4.1, r4.2)))))
set_option maxHeartbeats 4000000 in
theorem zX12_cry (l : Launch) (X : WX) (st : St) (a1 : Int32) (a2 : Int32) (R : Int32 × St) (hf : fX12_cry st a1 a2 = some R) : CtI l yX12_cry cX12_cry 3 .int ({ frames := 2, cells := 0, slots := 0, locals := 42 }) EM 43 X [.ref (xq X 0), .int a1, .int a2] st R.1 R.2 := by
  refine ct_in (own := RX12) (by decide +kernel) rfl (Nat.le_of_ble_eq_true rfl) (fun p e s m below meth c C hr hw ls hl => ?_)
  obtain ⟨hx, hb, hml, hown, hts⟩ := id C.1
  have hl : lv_has ls 3 [(0, .ref (xq X 0)), (1, .int a1), (2, .int a2)] := hl
  unfold fX12_cry at hf
  refine lv_iload_n hx hb dX12_cry_0 rfl (lv_at hl 1 rfl) ?_
  refine w_goI hw (w_runS (rest := []) C hw (zX12_isPerson _ _ st a1) km_X12_173 kt_yX12_isPerson kz_X12 kc_X12_isPerson ok_yX12_isPerson ⟨Nat.le_of_ble_eq_true rfl, Nat.le_of_ble_eq_true rfl⟩ rfl rfl rfl rfl hl.1 (Nat.le_of_ble_eq_true rfl) dX12_cry_1 ⟨Nat.zero_le _, Nat.zero_le _⟩) (fun H locs hw => ?_)
  refine lv_if_eq (tgt := 14) hx hb dX12_cry_4 (by decide) (fun c1 => ?_) (fun c1 => ?_)
  · replace hf := ite_t hf c1
    refine lv_iconst (v := -1) hx hb dX12_cry_14 (by decide) ?_
    exact w_iret C hw hr (so2 hf).1 (so2 hf).2 dX12_cry_15
  · replace hf := ite_f hf c1
    refine lv_iload_n hx hb dX12_cry_7 rfl (lv_at hl 2 rfl) ?_
    refine w_goI hw (w_runS (rest := []) C hw (zX12_isMinute _ _ st a2) km_X12_161 kt_yX12_isMinute kz_X12 kc_X12_isMinute ok_yX12_isMinute ⟨Nat.le_of_ble_eq_true rfl, Nat.le_of_ble_eq_true rfl⟩ rfl rfl rfl rfl hl.1 (Nat.le_of_ble_eq_true rfl) dX12_cry_8 ⟨Nat.zero_le _, Nat.zero_le _⟩) (fun H locs hw => ?_)
    refine lv_if_ne (tgt := 16) hx hb dX12_cry_11 (by decide) (fun c2 => ?_) (fun c2 => ?_)
    · replace hf := ite_f hf c2
      refine lv_aload_n hx hb dX12_cry_16 rfl (lv_at hl 0 rfl) ?_
      refine w_get (T := TX12) C hw (by decide) 13 kf_X12_154 (EM_0 X _ _) rfl inA12 (by decide) rfl dX12_cry_17 ?_
      refine lv_bipush (v := 12) hx hb dX12_cry_20 (by decide) ?_
      refine lv_icmp_ne (tgt := 30) hx hb dX12_cry_22 (by decide) (fun c3 => ?_) (fun c3 => ?_)
      · replace hf := ite_f hf c3
        refine lv_aload_n hx hb dX12_cry_30 rfl (lv_at hl 0 rfl) ?_
        refine lv_iload_n hx hb dX12_cry_31 rfl (lv_at hl 1 rfl) ?_
        refine lv_iload_n hx hb dX12_cry_32 rfl (lv_at hl 2 rfl) ?_
        refine lv_iconst (v := 0) hx hb dX12_cry_33 (by decide) ?_
        refine lv_iconst (v := 5) hx hb dX12_cry_34 (by decide) ?_
        obtain ⟨r4, k5, hf⟩ := bd_some hf
        refine w_goI hw (w_runV (rest := []) C hw (zX12_addCry _ _ st a1 a2 (0 : Int32) (5 : Int32) r4 k5) (by decide) (EM_0 X _ _) rfl km_X12_176 ki_yX12_addCry kv_X12_addCry kz_X12 kc_X12_addCry rfl ok_yX12_addCry ⟨Nat.le_of_ble_eq_true rfl, Nat.le_of_ble_eq_true rfl⟩ rfl rfl rfl rfl hl.1 (Nat.le_of_ble_eq_true rfl) dX12_cry_35 ⟨Nat.zero_le _, Nat.zero_le _⟩) (fun H locs hw => ?_)
        exact w_iret C hw hr (so2 hf).1 (so2 hf).2 dX12_cry_38
      · replace hf := ite_t hf c3
        refine lv_bipush (v := -3) hx hb dX12_cry_25 (by decide) ?_
        refine lv_goto (tgt := 38) hx hb dX12_cry_27 (by decide) ?_
        exact w_iret C hw hr (so2 hf).1 (so2 hf).2 dX12_cry_38
    · replace hf := ite_t hf c2
      refine lv_iconst (v := -1) hx hb dX12_cry_14 (by decide) ?_
      exact w_iret C hw hr (so2 hf).1 (so2 hf).2 dX12_cry_15
theorem dX12_valueAt_0 : decode cX12_valueAt 0 = .ok (.iload_n 1, 1) := by decide +kernel
theorem dX12_valueAt_1 : decode cX12_valueAt 1 = .ok (.tableswitch 158 0 12 #[67, 74, 81, 88, 95, 102, 109, 116, 123, 130, 137, 144, 151], 67) := by decide +kernel
theorem dX12_valueAt_68 : decode cX12_valueAt 68 = .ok (.aload_n 0, 1) := by decide +kernel
theorem dX12_valueAt_69 : decode cX12_valueAt 69 = .ok (.getfield 7, 3) := by decide +kernel
theorem dX12_valueAt_72 : decode cX12_valueAt 72 = .ok (.iload_n 2, 1) := by decide +kernel
theorem dX12_valueAt_73 : decode cX12_valueAt 73 = .ok (.iaload, 1) := by decide +kernel
theorem dX12_valueAt_74 : decode cX12_valueAt 74 = .ok (.ireturn, 1) := by decide +kernel
theorem dX12_valueAt_75 : decode cX12_valueAt 75 = .ok (.aload_n 0, 1) := by decide +kernel
theorem dX12_valueAt_76 : decode cX12_valueAt 76 = .ok (.getfield 13, 3) := by decide +kernel
theorem dX12_valueAt_79 : decode cX12_valueAt 79 = .ok (.iload_n 2, 1) := by decide +kernel
theorem dX12_valueAt_80 : decode cX12_valueAt 80 = .ok (.iaload, 1) := by decide +kernel
theorem dX12_valueAt_81 : decode cX12_valueAt 81 = .ok (.ireturn, 1) := by decide +kernel
theorem dX12_valueAt_82 : decode cX12_valueAt 82 = .ok (.aload_n 0, 1) := by decide +kernel
theorem dX12_valueAt_83 : decode cX12_valueAt 83 = .ok (.getfield 16, 3) := by decide +kernel
theorem dX12_valueAt_86 : decode cX12_valueAt 86 = .ok (.iload_n 2, 1) := by decide +kernel
theorem dX12_valueAt_87 : decode cX12_valueAt 87 = .ok (.iaload, 1) := by decide +kernel
theorem dX12_valueAt_88 : decode cX12_valueAt 88 = .ok (.ireturn, 1) := by decide +kernel
theorem dX12_valueAt_89 : decode cX12_valueAt 89 = .ok (.aload_n 0, 1) := by decide +kernel
theorem dX12_valueAt_90 : decode cX12_valueAt 90 = .ok (.getfield 19, 3) := by decide +kernel
theorem dX12_valueAt_93 : decode cX12_valueAt 93 = .ok (.iload_n 2, 1) := by decide +kernel
theorem dX12_valueAt_94 : decode cX12_valueAt 94 = .ok (.iaload, 1) := by decide +kernel
theorem dX12_valueAt_95 : decode cX12_valueAt 95 = .ok (.ireturn, 1) := by decide +kernel
theorem dX12_valueAt_96 : decode cX12_valueAt 96 = .ok (.aload_n 0, 1) := by decide +kernel
theorem dX12_valueAt_97 : decode cX12_valueAt 97 = .ok (.getfield 22, 3) := by decide +kernel
theorem dX12_valueAt_100 : decode cX12_valueAt 100 = .ok (.iload_n 2, 1) := by decide +kernel
theorem dX12_valueAt_101 : decode cX12_valueAt 101 = .ok (.iaload, 1) := by decide +kernel
theorem dX12_valueAt_102 : decode cX12_valueAt 102 = .ok (.ireturn, 1) := by decide +kernel
theorem dX12_valueAt_103 : decode cX12_valueAt 103 = .ok (.aload_n 0, 1) := by decide +kernel
theorem dX12_valueAt_104 : decode cX12_valueAt 104 = .ok (.getfield 25, 3) := by decide +kernel
theorem dX12_valueAt_107 : decode cX12_valueAt 107 = .ok (.iload_n 2, 1) := by decide +kernel
theorem dX12_valueAt_108 : decode cX12_valueAt 108 = .ok (.iaload, 1) := by decide +kernel
theorem dX12_valueAt_109 : decode cX12_valueAt 109 = .ok (.ireturn, 1) := by decide +kernel
theorem dX12_valueAt_110 : decode cX12_valueAt 110 = .ok (.aload_n 0, 1) := by decide +kernel
theorem dX12_valueAt_111 : decode cX12_valueAt 111 = .ok (.getfield 28, 3) := by decide +kernel
theorem dX12_valueAt_114 : decode cX12_valueAt 114 = .ok (.iload_n 2, 1) := by decide +kernel
theorem dX12_valueAt_115 : decode cX12_valueAt 115 = .ok (.iaload, 1) := by decide +kernel
theorem dX12_valueAt_116 : decode cX12_valueAt 116 = .ok (.ireturn, 1) := by decide +kernel
theorem dX12_valueAt_117 : decode cX12_valueAt 117 = .ok (.aload_n 0, 1) := by decide +kernel
theorem dX12_valueAt_118 : decode cX12_valueAt 118 = .ok (.getfield 31, 3) := by decide +kernel
theorem dX12_valueAt_121 : decode cX12_valueAt 121 = .ok (.iload_n 2, 1) := by decide +kernel
theorem dX12_valueAt_122 : decode cX12_valueAt 122 = .ok (.iaload, 1) := by decide +kernel
theorem dX12_valueAt_123 : decode cX12_valueAt 123 = .ok (.ireturn, 1) := by decide +kernel
theorem dX12_valueAt_124 : decode cX12_valueAt 124 = .ok (.aload_n 0, 1) := by decide +kernel
theorem dX12_valueAt_125 : decode cX12_valueAt 125 = .ok (.getfield 34, 3) := by decide +kernel
theorem dX12_valueAt_128 : decode cX12_valueAt 128 = .ok (.iload_n 2, 1) := by decide +kernel
theorem dX12_valueAt_129 : decode cX12_valueAt 129 = .ok (.iaload, 1) := by decide +kernel
theorem dX12_valueAt_130 : decode cX12_valueAt 130 = .ok (.ireturn, 1) := by decide +kernel
theorem dX12_valueAt_131 : decode cX12_valueAt 131 = .ok (.aload_n 0, 1) := by decide +kernel
theorem dX12_valueAt_132 : decode cX12_valueAt 132 = .ok (.getfield 37, 3) := by decide +kernel
theorem dX12_valueAt_135 : decode cX12_valueAt 135 = .ok (.iload_n 2, 1) := by decide +kernel
theorem dX12_valueAt_136 : decode cX12_valueAt 136 = .ok (.iaload, 1) := by decide +kernel
theorem dX12_valueAt_137 : decode cX12_valueAt 137 = .ok (.ireturn, 1) := by decide +kernel
theorem dX12_valueAt_138 : decode cX12_valueAt 138 = .ok (.aload_n 0, 1) := by decide +kernel
theorem dX12_valueAt_139 : decode cX12_valueAt 139 = .ok (.getfield 40, 3) := by decide +kernel
theorem dX12_valueAt_142 : decode cX12_valueAt 142 = .ok (.iload_n 2, 1) := by decide +kernel
theorem dX12_valueAt_143 : decode cX12_valueAt 143 = .ok (.iaload, 1) := by decide +kernel
theorem dX12_valueAt_144 : decode cX12_valueAt 144 = .ok (.ireturn, 1) := by decide +kernel
theorem dX12_valueAt_145 : decode cX12_valueAt 145 = .ok (.aload_n 0, 1) := by decide +kernel
theorem dX12_valueAt_146 : decode cX12_valueAt 146 = .ok (.getfield 43, 3) := by decide +kernel
theorem dX12_valueAt_149 : decode cX12_valueAt 149 = .ok (.iload_n 2, 1) := by decide +kernel
theorem dX12_valueAt_150 : decode cX12_valueAt 150 = .ok (.iaload, 1) := by decide +kernel
theorem dX12_valueAt_151 : decode cX12_valueAt 151 = .ok (.ireturn, 1) := by decide +kernel
theorem dX12_valueAt_152 : decode cX12_valueAt 152 = .ok (.aload_n 0, 1) := by decide +kernel
theorem dX12_valueAt_153 : decode cX12_valueAt 153 = .ok (.getfield 46, 3) := by decide +kernel
theorem dX12_valueAt_156 : decode cX12_valueAt 156 = .ok (.iload_n 2, 1) := by decide +kernel
theorem dX12_valueAt_157 : decode cX12_valueAt 157 = .ok (.iaload, 1) := by decide +kernel
theorem dX12_valueAt_158 : decode cX12_valueAt 158 = .ok (.ireturn, 1) := by decide +kernel
theorem dX12_valueAt_159 : decode cX12_valueAt 159 = .ok (.aload_n 0, 1) := by decide +kernel
theorem dX12_valueAt_160 : decode cX12_valueAt 160 = .ok (.getfield 49, 3) := by decide +kernel
theorem dX12_valueAt_163 : decode cX12_valueAt 163 = .ok (.iload_n 2, 1) := by decide +kernel
theorem dX12_valueAt_164 : decode cX12_valueAt 164 = .ok (.iaload, 1) := by decide +kernel
theorem dX12_valueAt_165 : decode cX12_valueAt 165 = .ok (.ireturn, 1) := by decide +kernel
theorem ok_yX12_valueAt : yOk yX12_valueAt 2 := ⟨by decide +kernel, by decide +kernel, by decide +kernel⟩
def fX12_valueAt (st : St) (a1 : Int32) (a2 : Int32) : Option (Int32) := if a1 = 0 then (gd (inB a2 8) (some (gI st 1 a2.toNatClampNeg))) else (if a1 = 1 then (gd (inB a2 8) (some (gI st 2 a2.toNatClampNeg))) else (if a1 = 2 then (gd (inB a2 8) (some (gI st 3 a2.toNatClampNeg))) else (if a1 = 3 then (gd (inB a2 8) (some (gI st 4 a2.toNatClampNeg))) else (if a1 = 4 then (gd (inB a2 8) (some (gI st 5 a2.toNatClampNeg))) else (if a1 = 5 then (gd (inB a2 8) (some (gI st 6 a2.toNatClampNeg))) else (if a1 = 6 then (gd (inB a2 11) (some (gI st 7 a2.toNatClampNeg))) else (if a1 = 7 then (gd (inB a2 11) (some (gI st 8 a2.toNatClampNeg))) else (if a1 = 8 then (gd (inB a2 11) (some (gI st 9 a2.toNatClampNeg))) else (if a1 = 9 then (gd (inB a2 11) (some (gI st 10 a2.toNatClampNeg))) else (if a1 = 10 then (gd (inB a2 13) (some (gI st 11 a2.toNatClampNeg))) else (if a1 = 11 then (gd (inB a2 13) (some (gI st 12 a2.toNatClampNeg))) else (if a1 = 12 then (gd (inB a2 13) (some (gI st 13 a2.toNatClampNeg))) else (gd (inB a2 13) (some (gI st 14 a2.toNatClampNeg)))))))))))))))
set_option maxHeartbeats 4000000 in
theorem zX12_valueAt (l : Launch) (X : WX) (st : St) (a1 : Int32) (a2 : Int32) (R : Int32) (hf : fX12_valueAt st a1 a2 = some R) : CtI l yX12_valueAt cX12_valueAt 3 .int ({ frames := 0, cells := 0, slots := 0, locals := 0 }) EM 43 X [.ref (xq X 0), .int a1, .int a2] st R st := by
  refine ct_in (own := RX12) (by decide +kernel) rfl (Nat.le_of_ble_eq_true rfl) (fun p e s m below meth c C hr hw ls hl => ?_)
  obtain ⟨hx, hb, hml, hown, hts⟩ := id C.1
  have hl : lv_has ls 3 [(0, .ref (xq X 0)), (1, .int a1), (2, .int a2)] := hl
  unfold fX12_valueAt at hf
  refine lv_iload_n hx hb dX12_valueAt_0 rfl (lv_at hl 1 rfl) ?_
  by_cases c1 : a1 = 0
  · replace hf := ite_t hf c1
    refine lv_tableIn (tgt := 68) hx hb dX12_valueAt_1 (by rw [c1]; decide) (by rw [c1]; decide) (by rw [c1]; rfl) (by decide) ?_
    refine lv_aload_n hx hb dX12_valueAt_68 rfl (lv_at hl 0 rfl) ?_
    refine w_get (T := TX12) C hw (by decide) 2 kf_X12_7 (EM_0 X _ _) rfl inA12 (by decide) rfl dX12_valueAt_69 ?_
    refine lv_iload_n hx hb dX12_valueAt_72 rfl (lv_at hl 2 rfl) ?_
    obtain ⟨h2, hf⟩ := gd_some hf
    refine w_iald C hw (by decide) (EM_1 X _ _) h2 rfl dX12_valueAt_73 ?_
    exact w_iret C hw hr (Option.some.inj hf) rfl dX12_valueAt_74
  · replace hf := ite_f hf c1
    by_cases c3 : a1 = 1
    · replace hf := ite_t hf c3
      refine lv_tableIn (tgt := 75) hx hb dX12_valueAt_1 (by rw [c3]; decide) (by rw [c3]; decide) (by rw [c3]; rfl) (by decide) ?_
      refine lv_aload_n hx hb dX12_valueAt_75 rfl (lv_at hl 0 rfl) ?_
      refine w_get (T := TX12) C hw (by decide) 3 kf_X12_13 (EM_0 X _ _) rfl inA12 (by decide) rfl dX12_valueAt_76 ?_
      refine lv_iload_n hx hb dX12_valueAt_79 rfl (lv_at hl 2 rfl) ?_
      obtain ⟨h4, hf⟩ := gd_some hf
      refine w_iald C hw (by decide) (EM_2 X _ _) h4 rfl dX12_valueAt_80 ?_
      exact w_iret C hw hr (Option.some.inj hf) rfl dX12_valueAt_81
    · replace hf := ite_f hf c3
      by_cases c5 : a1 = 2
      · replace hf := ite_t hf c5
        refine lv_tableIn (tgt := 82) hx hb dX12_valueAt_1 (by rw [c5]; decide) (by rw [c5]; decide) (by rw [c5]; rfl) (by decide) ?_
        refine lv_aload_n hx hb dX12_valueAt_82 rfl (lv_at hl 0 rfl) ?_
        refine w_get (T := TX12) C hw (by decide) 4 kf_X12_16 (EM_0 X _ _) rfl inA12 (by decide) rfl dX12_valueAt_83 ?_
        refine lv_iload_n hx hb dX12_valueAt_86 rfl (lv_at hl 2 rfl) ?_
        obtain ⟨h6, hf⟩ := gd_some hf
        refine w_iald C hw (by decide) (EM_3 X _ _) h6 rfl dX12_valueAt_87 ?_
        exact w_iret C hw hr (Option.some.inj hf) rfl dX12_valueAt_88
      · replace hf := ite_f hf c5
        by_cases c7 : a1 = 3
        · replace hf := ite_t hf c7
          refine lv_tableIn (tgt := 89) hx hb dX12_valueAt_1 (by rw [c7]; decide) (by rw [c7]; decide) (by rw [c7]; rfl) (by decide) ?_
          refine lv_aload_n hx hb dX12_valueAt_89 rfl (lv_at hl 0 rfl) ?_
          refine w_get (T := TX12) C hw (by decide) 5 kf_X12_19 (EM_0 X _ _) rfl inA12 (by decide) rfl dX12_valueAt_90 ?_
          refine lv_iload_n hx hb dX12_valueAt_93 rfl (lv_at hl 2 rfl) ?_
          obtain ⟨h8, hf⟩ := gd_some hf
          refine w_iald C hw (by decide) (EM_4 X _ _) h8 rfl dX12_valueAt_94 ?_
          exact w_iret C hw hr (Option.some.inj hf) rfl dX12_valueAt_95
        · replace hf := ite_f hf c7
          by_cases c9 : a1 = 4
          · replace hf := ite_t hf c9
            refine lv_tableIn (tgt := 96) hx hb dX12_valueAt_1 (by rw [c9]; decide) (by rw [c9]; decide) (by rw [c9]; rfl) (by decide) ?_
            refine lv_aload_n hx hb dX12_valueAt_96 rfl (lv_at hl 0 rfl) ?_
            refine w_get (T := TX12) C hw (by decide) 6 kf_X12_22 (EM_0 X _ _) rfl inA12 (by decide) rfl dX12_valueAt_97 ?_
            refine lv_iload_n hx hb dX12_valueAt_100 rfl (lv_at hl 2 rfl) ?_
            obtain ⟨h10, hf⟩ := gd_some hf
            refine w_iald C hw (by decide) (EM_5 X _ _) h10 rfl dX12_valueAt_101 ?_
            exact w_iret C hw hr (Option.some.inj hf) rfl dX12_valueAt_102
          · replace hf := ite_f hf c9
            by_cases c11 : a1 = 5
            · replace hf := ite_t hf c11
              refine lv_tableIn (tgt := 103) hx hb dX12_valueAt_1 (by rw [c11]; decide) (by rw [c11]; decide) (by rw [c11]; rfl) (by decide) ?_
              refine lv_aload_n hx hb dX12_valueAt_103 rfl (lv_at hl 0 rfl) ?_
              refine w_get (T := TX12) C hw (by decide) 7 kf_X12_25 (EM_0 X _ _) rfl inA12 (by decide) rfl dX12_valueAt_104 ?_
              refine lv_iload_n hx hb dX12_valueAt_107 rfl (lv_at hl 2 rfl) ?_
              obtain ⟨h12, hf⟩ := gd_some hf
              refine w_iald C hw (by decide) (EM_6 X _ _) h12 rfl dX12_valueAt_108 ?_
              exact w_iret C hw hr (Option.some.inj hf) rfl dX12_valueAt_109
            · replace hf := ite_f hf c11
              by_cases c13 : a1 = 6
              · replace hf := ite_t hf c13
                refine lv_tableIn (tgt := 110) hx hb dX12_valueAt_1 (by rw [c13]; decide) (by rw [c13]; decide) (by rw [c13]; rfl) (by decide) ?_
                refine lv_aload_n hx hb dX12_valueAt_110 rfl (lv_at hl 0 rfl) ?_
                refine w_get (T := TX12) C hw (by decide) 9 kf_X12_28 (EM_0 X _ _) rfl inA12 (by decide) rfl dX12_valueAt_111 ?_
                refine lv_iload_n hx hb dX12_valueAt_114 rfl (lv_at hl 2 rfl) ?_
                obtain ⟨h14, hf⟩ := gd_some hf
                refine w_iald C hw (by decide) (EM_7 X _ _) h14 rfl dX12_valueAt_115 ?_
                exact w_iret C hw hr (Option.some.inj hf) rfl dX12_valueAt_116
              · replace hf := ite_f hf c13
                by_cases c15 : a1 = 7
                · replace hf := ite_t hf c15
                  refine lv_tableIn (tgt := 117) hx hb dX12_valueAt_1 (by rw [c15]; decide) (by rw [c15]; decide) (by rw [c15]; rfl) (by decide) ?_
                  refine lv_aload_n hx hb dX12_valueAt_117 rfl (lv_at hl 0 rfl) ?_
                  refine w_get (T := TX12) C hw (by decide) 10 kf_X12_31 (EM_0 X _ _) rfl inA12 (by decide) rfl dX12_valueAt_118 ?_
                  refine lv_iload_n hx hb dX12_valueAt_121 rfl (lv_at hl 2 rfl) ?_
                  obtain ⟨h16, hf⟩ := gd_some hf
                  refine w_iald C hw (by decide) (EM_8 X _ _) h16 rfl dX12_valueAt_122 ?_
                  exact w_iret C hw hr (Option.some.inj hf) rfl dX12_valueAt_123
                · replace hf := ite_f hf c15
                  by_cases c17 : a1 = 8
                  · replace hf := ite_t hf c17
                    refine lv_tableIn (tgt := 124) hx hb dX12_valueAt_1 (by rw [c17]; decide) (by rw [c17]; decide) (by rw [c17]; rfl) (by decide) ?_
                    refine lv_aload_n hx hb dX12_valueAt_124 rfl (lv_at hl 0 rfl) ?_
                    refine w_get (T := TX12) C hw (by decide) 11 kf_X12_34 (EM_0 X _ _) rfl inA12 (by decide) rfl dX12_valueAt_125 ?_
                    refine lv_iload_n hx hb dX12_valueAt_128 rfl (lv_at hl 2 rfl) ?_
                    obtain ⟨h18, hf⟩ := gd_some hf
                    refine w_iald C hw (by decide) (EM_9 X _ _) h18 rfl dX12_valueAt_129 ?_
                    exact w_iret C hw hr (Option.some.inj hf) rfl dX12_valueAt_130
                  · replace hf := ite_f hf c17
                    by_cases c19 : a1 = 9
                    · replace hf := ite_t hf c19
                      refine lv_tableIn (tgt := 131) hx hb dX12_valueAt_1 (by rw [c19]; decide) (by rw [c19]; decide) (by rw [c19]; rfl) (by decide) ?_
                      refine lv_aload_n hx hb dX12_valueAt_131 rfl (lv_at hl 0 rfl) ?_
                      refine w_get (T := TX12) C hw (by decide) 12 kf_X12_37 (EM_0 X _ _) rfl inA12 (by decide) rfl dX12_valueAt_132 ?_
                      refine lv_iload_n hx hb dX12_valueAt_135 rfl (lv_at hl 2 rfl) ?_
                      obtain ⟨h20, hf⟩ := gd_some hf
                      refine w_iald C hw (by decide) (EM_10 X _ _) h20 rfl dX12_valueAt_136 ?_
                      exact w_iret C hw hr (Option.some.inj hf) rfl dX12_valueAt_137
                    · replace hf := ite_f hf c19
                      by_cases c21 : a1 = 10
                      · replace hf := ite_t hf c21
                        refine lv_tableIn (tgt := 138) hx hb dX12_valueAt_1 (by rw [c21]; decide) (by rw [c21]; decide) (by rw [c21]; rfl) (by decide) ?_
                        refine lv_aload_n hx hb dX12_valueAt_138 rfl (lv_at hl 0 rfl) ?_
                        refine w_get (T := TX12) C hw (by decide) 14 kf_X12_40 (EM_0 X _ _) rfl inA12 (by decide) rfl dX12_valueAt_139 ?_
                        refine lv_iload_n hx hb dX12_valueAt_142 rfl (lv_at hl 2 rfl) ?_
                        obtain ⟨h22, hf⟩ := gd_some hf
                        refine w_iald C hw (by decide) (EM_11 X _ _) h22 rfl dX12_valueAt_143 ?_
                        exact w_iret C hw hr (Option.some.inj hf) rfl dX12_valueAt_144
                      · replace hf := ite_f hf c21
                        by_cases c23 : a1 = 11
                        · replace hf := ite_t hf c23
                          refine lv_tableIn (tgt := 145) hx hb dX12_valueAt_1 (by rw [c23]; decide) (by rw [c23]; decide) (by rw [c23]; rfl) (by decide) ?_
                          refine lv_aload_n hx hb dX12_valueAt_145 rfl (lv_at hl 0 rfl) ?_
                          refine w_get (T := TX12) C hw (by decide) 15 kf_X12_43 (EM_0 X _ _) rfl inA12 (by decide) rfl dX12_valueAt_146 ?_
                          refine lv_iload_n hx hb dX12_valueAt_149 rfl (lv_at hl 2 rfl) ?_
                          obtain ⟨h24, hf⟩ := gd_some hf
                          refine w_iald C hw (by decide) (EM_12 X _ _) h24 rfl dX12_valueAt_150 ?_
                          exact w_iret C hw hr (Option.some.inj hf) rfl dX12_valueAt_151
                        · replace hf := ite_f hf c23
                          by_cases c25 : a1 = 12
                          · replace hf := ite_t hf c25
                            refine lv_tableIn (tgt := 152) hx hb dX12_valueAt_1 (by rw [c25]; decide) (by rw [c25]; decide) (by rw [c25]; rfl) (by decide) ?_
                            refine lv_aload_n hx hb dX12_valueAt_152 rfl (lv_at hl 0 rfl) ?_
                            refine w_get (T := TX12) C hw (by decide) 16 kf_X12_46 (EM_0 X _ _) rfl inA12 (by decide) rfl dX12_valueAt_153 ?_
                            refine lv_iload_n hx hb dX12_valueAt_156 rfl (lv_at hl 2 rfl) ?_
                            obtain ⟨h26, hf⟩ := gd_some hf
                            refine w_iald C hw (by decide) (EM_13 X _ _) h26 rfl dX12_valueAt_157 ?_
                            exact w_iret C hw hr (Option.some.inj hf) rfl dX12_valueAt_158
                          · replace hf := ite_f hf c25
                            refine lv_tableOut (tgt := 159) hx hb dX12_valueAt_1 (by have q0 := ne_toInt (a := 0) c1 (by decide); have q1 := ne_toInt (a := 1) c3 (by decide); have q2 := ne_toInt (a := 2) c5 (by decide); have q3 := ne_toInt (a := 3) c7 (by decide); have q4 := ne_toInt (a := 4) c9 (by decide); have q5 := ne_toInt (a := 5) c11 (by decide); have q6 := ne_toInt (a := 6) c13 (by decide); have q7 := ne_toInt (a := 7) c15 (by decide); have q8 := ne_toInt (a := 8) c17 (by decide); have q9 := ne_toInt (a := 9) c19 (by decide); have q10 := ne_toInt (a := 10) c21 (by decide); have q11 := ne_toInt (a := 11) c23 (by decide); have q12 := ne_toInt (a := 12) c25 (by decide); omega) (by decide) ?_
                            refine lv_aload_n hx hb dX12_valueAt_159 rfl (lv_at hl 0 rfl) ?_
                            refine w_get (T := TX12) C hw (by decide) 17 kf_X12_49 (EM_0 X _ _) rfl inA12 (by decide) rfl dX12_valueAt_160 ?_
                            refine lv_iload_n hx hb dX12_valueAt_163 rfl (lv_at hl 2 rfl) ?_
                            obtain ⟨h27, hf⟩ := gd_some hf
                            refine w_iald C hw (by decide) (EM_14 X _ _) h27 rfl dX12_valueAt_164 ?_
                            exact w_iret C hw hr (Option.some.inj hf) rfl dX12_valueAt_165
theorem dX12_lays_0 : decode cX12_lays 0 = .ok (.iload_n 1, 1) := by decide +kernel
theorem dX12_lays_1 : decode cX12_lays 1 = .ok (.tableswitch 197 0 12 #[67, 77, 87, 97, 107, 117, 127, 137, 147, 157, 167, 177, 187], 67) := by decide +kernel
theorem dX12_lays_68 : decode cX12_lays 68 = .ok (.aload_n 0, 1) := by decide +kernel
theorem dX12_lays_69 : decode cX12_lays 69 = .ok (.getfield 7, 3) := by decide +kernel
theorem dX12_lays_72 : decode cX12_lays 72 = .ok (.iload_n 2, 1) := by decide +kernel
theorem dX12_lays_73 : decode cX12_lays 73 = .ok (.iload_n 3, 1) := by decide +kernel
theorem dX12_lays_74 : decode cX12_lays 74 = .ok (.iastore, 1) := by decide +kernel
theorem dX12_lays_75 : decode cX12_lays 75 = .ok (.goto 130, 3) := by decide +kernel
theorem dX12_lays_78 : decode cX12_lays 78 = .ok (.aload_n 0, 1) := by decide +kernel
theorem dX12_lays_79 : decode cX12_lays 79 = .ok (.getfield 13, 3) := by decide +kernel
theorem dX12_lays_82 : decode cX12_lays 82 = .ok (.iload_n 2, 1) := by decide +kernel
theorem dX12_lays_83 : decode cX12_lays 83 = .ok (.iload_n 3, 1) := by decide +kernel
theorem dX12_lays_84 : decode cX12_lays 84 = .ok (.iastore, 1) := by decide +kernel
theorem dX12_lays_85 : decode cX12_lays 85 = .ok (.goto 120, 3) := by decide +kernel
theorem dX12_lays_88 : decode cX12_lays 88 = .ok (.aload_n 0, 1) := by decide +kernel
theorem dX12_lays_89 : decode cX12_lays 89 = .ok (.getfield 16, 3) := by decide +kernel
theorem dX12_lays_92 : decode cX12_lays 92 = .ok (.iload_n 2, 1) := by decide +kernel
theorem dX12_lays_93 : decode cX12_lays 93 = .ok (.iload_n 3, 1) := by decide +kernel
theorem dX12_lays_94 : decode cX12_lays 94 = .ok (.iastore, 1) := by decide +kernel
theorem dX12_lays_95 : decode cX12_lays 95 = .ok (.goto 110, 3) := by decide +kernel
theorem dX12_lays_98 : decode cX12_lays 98 = .ok (.aload_n 0, 1) := by decide +kernel
theorem dX12_lays_99 : decode cX12_lays 99 = .ok (.getfield 19, 3) := by decide +kernel
theorem dX12_lays_102 : decode cX12_lays 102 = .ok (.iload_n 2, 1) := by decide +kernel
theorem dX12_lays_103 : decode cX12_lays 103 = .ok (.iload_n 3, 1) := by decide +kernel
theorem dX12_lays_104 : decode cX12_lays 104 = .ok (.iastore, 1) := by decide +kernel
theorem dX12_lays_105 : decode cX12_lays 105 = .ok (.goto 100, 3) := by decide +kernel
theorem dX12_lays_108 : decode cX12_lays 108 = .ok (.aload_n 0, 1) := by decide +kernel
theorem dX12_lays_109 : decode cX12_lays 109 = .ok (.getfield 22, 3) := by decide +kernel
theorem dX12_lays_112 : decode cX12_lays 112 = .ok (.iload_n 2, 1) := by decide +kernel
theorem dX12_lays_113 : decode cX12_lays 113 = .ok (.iload_n 3, 1) := by decide +kernel
theorem dX12_lays_114 : decode cX12_lays 114 = .ok (.iastore, 1) := by decide +kernel
theorem dX12_lays_115 : decode cX12_lays 115 = .ok (.goto 90, 3) := by decide +kernel
theorem dX12_lays_118 : decode cX12_lays 118 = .ok (.aload_n 0, 1) := by decide +kernel
theorem dX12_lays_119 : decode cX12_lays 119 = .ok (.getfield 25, 3) := by decide +kernel
theorem dX12_lays_122 : decode cX12_lays 122 = .ok (.iload_n 2, 1) := by decide +kernel
theorem dX12_lays_123 : decode cX12_lays 123 = .ok (.iload_n 3, 1) := by decide +kernel
theorem dX12_lays_124 : decode cX12_lays 124 = .ok (.iastore, 1) := by decide +kernel
theorem dX12_lays_125 : decode cX12_lays 125 = .ok (.goto 80, 3) := by decide +kernel
theorem dX12_lays_128 : decode cX12_lays 128 = .ok (.aload_n 0, 1) := by decide +kernel
theorem dX12_lays_129 : decode cX12_lays 129 = .ok (.getfield 28, 3) := by decide +kernel
theorem dX12_lays_132 : decode cX12_lays 132 = .ok (.iload_n 2, 1) := by decide +kernel
theorem dX12_lays_133 : decode cX12_lays 133 = .ok (.iload_n 3, 1) := by decide +kernel
theorem dX12_lays_134 : decode cX12_lays 134 = .ok (.iastore, 1) := by decide +kernel
theorem dX12_lays_135 : decode cX12_lays 135 = .ok (.goto 70, 3) := by decide +kernel
theorem dX12_lays_138 : decode cX12_lays 138 = .ok (.aload_n 0, 1) := by decide +kernel
theorem dX12_lays_139 : decode cX12_lays 139 = .ok (.getfield 31, 3) := by decide +kernel
theorem dX12_lays_142 : decode cX12_lays 142 = .ok (.iload_n 2, 1) := by decide +kernel
theorem dX12_lays_143 : decode cX12_lays 143 = .ok (.iload_n 3, 1) := by decide +kernel
theorem dX12_lays_144 : decode cX12_lays 144 = .ok (.iastore, 1) := by decide +kernel
theorem dX12_lays_145 : decode cX12_lays 145 = .ok (.goto 60, 3) := by decide +kernel
theorem dX12_lays_148 : decode cX12_lays 148 = .ok (.aload_n 0, 1) := by decide +kernel
theorem dX12_lays_149 : decode cX12_lays 149 = .ok (.getfield 34, 3) := by decide +kernel
theorem dX12_lays_152 : decode cX12_lays 152 = .ok (.iload_n 2, 1) := by decide +kernel
theorem dX12_lays_153 : decode cX12_lays 153 = .ok (.iload_n 3, 1) := by decide +kernel
theorem dX12_lays_154 : decode cX12_lays 154 = .ok (.iastore, 1) := by decide +kernel
theorem dX12_lays_155 : decode cX12_lays 155 = .ok (.goto 50, 3) := by decide +kernel
theorem dX12_lays_158 : decode cX12_lays 158 = .ok (.aload_n 0, 1) := by decide +kernel
theorem dX12_lays_159 : decode cX12_lays 159 = .ok (.getfield 37, 3) := by decide +kernel
theorem dX12_lays_162 : decode cX12_lays 162 = .ok (.iload_n 2, 1) := by decide +kernel
theorem dX12_lays_163 : decode cX12_lays 163 = .ok (.iload_n 3, 1) := by decide +kernel
theorem dX12_lays_164 : decode cX12_lays 164 = .ok (.iastore, 1) := by decide +kernel
theorem dX12_lays_165 : decode cX12_lays 165 = .ok (.goto 40, 3) := by decide +kernel
theorem dX12_lays_168 : decode cX12_lays 168 = .ok (.aload_n 0, 1) := by decide +kernel
theorem dX12_lays_169 : decode cX12_lays 169 = .ok (.getfield 40, 3) := by decide +kernel
theorem dX12_lays_172 : decode cX12_lays 172 = .ok (.iload_n 2, 1) := by decide +kernel
theorem dX12_lays_173 : decode cX12_lays 173 = .ok (.iload_n 3, 1) := by decide +kernel
theorem dX12_lays_174 : decode cX12_lays 174 = .ok (.iastore, 1) := by decide +kernel
theorem dX12_lays_175 : decode cX12_lays 175 = .ok (.goto 30, 3) := by decide +kernel
theorem dX12_lays_178 : decode cX12_lays 178 = .ok (.aload_n 0, 1) := by decide +kernel
theorem dX12_lays_179 : decode cX12_lays 179 = .ok (.getfield 43, 3) := by decide +kernel
theorem dX12_lays_182 : decode cX12_lays 182 = .ok (.iload_n 2, 1) := by decide +kernel
theorem dX12_lays_183 : decode cX12_lays 183 = .ok (.iload_n 3, 1) := by decide +kernel
theorem dX12_lays_184 : decode cX12_lays 184 = .ok (.iastore, 1) := by decide +kernel
theorem dX12_lays_185 : decode cX12_lays 185 = .ok (.goto 20, 3) := by decide +kernel
theorem dX12_lays_188 : decode cX12_lays 188 = .ok (.aload_n 0, 1) := by decide +kernel
theorem dX12_lays_189 : decode cX12_lays 189 = .ok (.getfield 46, 3) := by decide +kernel
theorem dX12_lays_192 : decode cX12_lays 192 = .ok (.iload_n 2, 1) := by decide +kernel
theorem dX12_lays_193 : decode cX12_lays 193 = .ok (.iload_n 3, 1) := by decide +kernel
theorem dX12_lays_194 : decode cX12_lays 194 = .ok (.iastore, 1) := by decide +kernel
theorem dX12_lays_195 : decode cX12_lays 195 = .ok (.goto 10, 3) := by decide +kernel
theorem dX12_lays_198 : decode cX12_lays 198 = .ok (.aload_n 0, 1) := by decide +kernel
theorem dX12_lays_199 : decode cX12_lays 199 = .ok (.getfield 49, 3) := by decide +kernel
theorem dX12_lays_202 : decode cX12_lays 202 = .ok (.iload_n 2, 1) := by decide +kernel
theorem dX12_lays_203 : decode cX12_lays 203 = .ok (.iload_n 3, 1) := by decide +kernel
theorem dX12_lays_204 : decode cX12_lays 204 = .ok (.iastore, 1) := by decide +kernel
theorem dX12_lays_205 : decode cX12_lays 205 = .ok (.return_, 1) := by decide +kernel
theorem ok_yX12_lays : yOk yX12_lays 3 := ⟨by decide +kernel, by decide +kernel, by decide +kernel⟩
def fX12_lays (st : St) (a1 : Int32) (a2 : Int32) (a3 : Int32) : Option (St) := if a1 = 0 then (gd (inB a2 8) (bnd (sI st 1 a2.toNatClampNeg a3) (fun st3 => some st3))) else (if a1 = 1 then (gd (inB a2 8) (bnd (sI st 2 a2.toNatClampNeg a3) (fun st7 => some st7))) else (if a1 = 2 then (gd (inB a2 8) (bnd (sI st 3 a2.toNatClampNeg a3) (fun st11 => some st11))) else (if a1 = 3 then (gd (inB a2 8) (bnd (sI st 4 a2.toNatClampNeg a3) (fun st15 => some st15))) else (if a1 = 4 then (gd (inB a2 8) (bnd (sI st 5 a2.toNatClampNeg a3) (fun st19 => some st19))) else (if a1 = 5 then (gd (inB a2 8) (bnd (sI st 6 a2.toNatClampNeg a3) (fun st23 => some st23))) else (if a1 = 6 then (gd (inB a2 11) (bnd (sI st 7 a2.toNatClampNeg a3) (fun st27 => some st27))) else (if a1 = 7 then (gd (inB a2 11) (bnd (sI st 8 a2.toNatClampNeg a3) (fun st31 => some st31))) else (if a1 = 8 then (gd (inB a2 11) (bnd (sI st 9 a2.toNatClampNeg a3) (fun st35 => some st35))) else (if a1 = 9 then (gd (inB a2 11) (bnd (sI st 10 a2.toNatClampNeg a3) (fun st39 => some st39))) else (if a1 = 10 then (gd (inB a2 13) (bnd (sI st 11 a2.toNatClampNeg a3) (fun st43 => some st43))) else (if a1 = 11 then (gd (inB a2 13) (bnd (sI st 12 a2.toNatClampNeg a3) (fun st47 => some st47))) else (if a1 = 12 then (gd (inB a2 13) (bnd (sI st 13 a2.toNatClampNeg a3) (fun st51 => some st51))) else (gd (inB a2 13) (bnd (sI st 14 a2.toNatClampNeg a3) (fun st54 => some st54)))))))))))))))
set_option maxHeartbeats 4000000 in
theorem zX12_lays (l : Launch) (X : WX) (st : St) (a1 : Int32) (a2 : Int32) (a3 : Int32) (R : St) (hf : fX12_lays st a1 a2 a3 = some R) : CtV l yX12_lays cX12_lays 4 ({ frames := 0, cells := 0, slots := 0, locals := 0 }) EM 43 X [.ref (xq X 0), .int a1, .int a2, .int a3] st R := by
  refine ct_in (own := RX12) (by decide +kernel) rfl (Nat.le_of_ble_eq_true rfl) (fun p e s m below meth c C hr hw ls hl => ?_)
  obtain ⟨hx, hb, hml, hown, hts⟩ := id C.1
  have hl : lv_has ls 4 [(0, .ref (xq X 0)), (1, .int a1), (2, .int a2), (3, .int a3)] := hl
  unfold fX12_lays at hf
  refine lv_iload_n hx hb dX12_lays_0 rfl (lv_at hl 1 rfl) ?_
  by_cases c1 : a1 = 0
  · replace hf := ite_t hf c1
    refine lv_tableIn (tgt := 68) hx hb dX12_lays_1 (by rw [c1]; decide) (by rw [c1]; decide) (by rw [c1]; rfl) (by decide) ?_
    refine lv_aload_n hx hb dX12_lays_68 rfl (lv_at hl 0 rfl) ?_
    refine w_get (T := TX12) C hw (by decide) 2 kf_X12_7 (EM_0 X _ _) rfl inA12 (by decide) rfl dX12_lays_69 ?_
    refine lv_iload_n hx hb dX12_lays_72 rfl (lv_at hl 2 rfl) ?_
    refine lv_iload_n hx hb dX12_lays_73 rfl (lv_at hl 3 rfl) ?_
    obtain ⟨h2, hf⟩ := gd_some hf
    obtain ⟨st3, es4⟩ : ∃ z : St, z = sI st 1 a2.toNatClampNeg a3 := ⟨_, rfl⟩
    replace hf := bnd_nm hf es4
    refine w_iast C hw (by decide) (fun f9 => EM_1 X f9 _) h2 rfl dX12_lays_74 (fun H locs hw => ?_)
    rw [← es4] at hw
    refine lv_goto (tgt := 205) hx hb dX12_lays_75 (by decide) ?_
    exact w_vret C hw hr (Option.some.inj hf) dX12_lays_205
  · replace hf := ite_f hf c1
    by_cases c5 : a1 = 1
    · replace hf := ite_t hf c5
      refine lv_tableIn (tgt := 78) hx hb dX12_lays_1 (by rw [c5]; decide) (by rw [c5]; decide) (by rw [c5]; rfl) (by decide) ?_
      refine lv_aload_n hx hb dX12_lays_78 rfl (lv_at hl 0 rfl) ?_
      refine w_get (T := TX12) C hw (by decide) 3 kf_X12_13 (EM_0 X _ _) rfl inA12 (by decide) rfl dX12_lays_79 ?_
      refine lv_iload_n hx hb dX12_lays_82 rfl (lv_at hl 2 rfl) ?_
      refine lv_iload_n hx hb dX12_lays_83 rfl (lv_at hl 3 rfl) ?_
      obtain ⟨h6, hf⟩ := gd_some hf
      obtain ⟨st7, es8⟩ : ∃ z : St, z = sI st 2 a2.toNatClampNeg a3 := ⟨_, rfl⟩
      replace hf := bnd_nm hf es8
      refine w_iast C hw (by decide) (fun f9 => EM_2 X f9 _) h6 rfl dX12_lays_84 (fun H locs hw => ?_)
      rw [← es8] at hw
      refine lv_goto (tgt := 205) hx hb dX12_lays_85 (by decide) ?_
      exact w_vret C hw hr (Option.some.inj hf) dX12_lays_205
    · replace hf := ite_f hf c5
      by_cases c9 : a1 = 2
      · replace hf := ite_t hf c9
        refine lv_tableIn (tgt := 88) hx hb dX12_lays_1 (by rw [c9]; decide) (by rw [c9]; decide) (by rw [c9]; rfl) (by decide) ?_
        refine lv_aload_n hx hb dX12_lays_88 rfl (lv_at hl 0 rfl) ?_
        refine w_get (T := TX12) C hw (by decide) 4 kf_X12_16 (EM_0 X _ _) rfl inA12 (by decide) rfl dX12_lays_89 ?_
        refine lv_iload_n hx hb dX12_lays_92 rfl (lv_at hl 2 rfl) ?_
        refine lv_iload_n hx hb dX12_lays_93 rfl (lv_at hl 3 rfl) ?_
        obtain ⟨h10, hf⟩ := gd_some hf
        obtain ⟨st11, es12⟩ : ∃ z : St, z = sI st 3 a2.toNatClampNeg a3 := ⟨_, rfl⟩
        replace hf := bnd_nm hf es12
        refine w_iast C hw (by decide) (fun f9 => EM_3 X f9 _) h10 rfl dX12_lays_94 (fun H locs hw => ?_)
        rw [← es12] at hw
        refine lv_goto (tgt := 205) hx hb dX12_lays_95 (by decide) ?_
        exact w_vret C hw hr (Option.some.inj hf) dX12_lays_205
      · replace hf := ite_f hf c9
        by_cases c13 : a1 = 3
        · replace hf := ite_t hf c13
          refine lv_tableIn (tgt := 98) hx hb dX12_lays_1 (by rw [c13]; decide) (by rw [c13]; decide) (by rw [c13]; rfl) (by decide) ?_
          refine lv_aload_n hx hb dX12_lays_98 rfl (lv_at hl 0 rfl) ?_
          refine w_get (T := TX12) C hw (by decide) 5 kf_X12_19 (EM_0 X _ _) rfl inA12 (by decide) rfl dX12_lays_99 ?_
          refine lv_iload_n hx hb dX12_lays_102 rfl (lv_at hl 2 rfl) ?_
          refine lv_iload_n hx hb dX12_lays_103 rfl (lv_at hl 3 rfl) ?_
          obtain ⟨h14, hf⟩ := gd_some hf
          obtain ⟨st15, es16⟩ : ∃ z : St, z = sI st 4 a2.toNatClampNeg a3 := ⟨_, rfl⟩
          replace hf := bnd_nm hf es16
          refine w_iast C hw (by decide) (fun f9 => EM_4 X f9 _) h14 rfl dX12_lays_104 (fun H locs hw => ?_)
          rw [← es16] at hw
          refine lv_goto (tgt := 205) hx hb dX12_lays_105 (by decide) ?_
          exact w_vret C hw hr (Option.some.inj hf) dX12_lays_205
        · replace hf := ite_f hf c13
          by_cases c17 : a1 = 4
          · replace hf := ite_t hf c17
            refine lv_tableIn (tgt := 108) hx hb dX12_lays_1 (by rw [c17]; decide) (by rw [c17]; decide) (by rw [c17]; rfl) (by decide) ?_
            refine lv_aload_n hx hb dX12_lays_108 rfl (lv_at hl 0 rfl) ?_
            refine w_get (T := TX12) C hw (by decide) 6 kf_X12_22 (EM_0 X _ _) rfl inA12 (by decide) rfl dX12_lays_109 ?_
            refine lv_iload_n hx hb dX12_lays_112 rfl (lv_at hl 2 rfl) ?_
            refine lv_iload_n hx hb dX12_lays_113 rfl (lv_at hl 3 rfl) ?_
            obtain ⟨h18, hf⟩ := gd_some hf
            obtain ⟨st19, es20⟩ : ∃ z : St, z = sI st 5 a2.toNatClampNeg a3 := ⟨_, rfl⟩
            replace hf := bnd_nm hf es20
            refine w_iast C hw (by decide) (fun f9 => EM_5 X f9 _) h18 rfl dX12_lays_114 (fun H locs hw => ?_)
            rw [← es20] at hw
            refine lv_goto (tgt := 205) hx hb dX12_lays_115 (by decide) ?_
            exact w_vret C hw hr (Option.some.inj hf) dX12_lays_205
          · replace hf := ite_f hf c17
            by_cases c21 : a1 = 5
            · replace hf := ite_t hf c21
              refine lv_tableIn (tgt := 118) hx hb dX12_lays_1 (by rw [c21]; decide) (by rw [c21]; decide) (by rw [c21]; rfl) (by decide) ?_
              refine lv_aload_n hx hb dX12_lays_118 rfl (lv_at hl 0 rfl) ?_
              refine w_get (T := TX12) C hw (by decide) 7 kf_X12_25 (EM_0 X _ _) rfl inA12 (by decide) rfl dX12_lays_119 ?_
              refine lv_iload_n hx hb dX12_lays_122 rfl (lv_at hl 2 rfl) ?_
              refine lv_iload_n hx hb dX12_lays_123 rfl (lv_at hl 3 rfl) ?_
              obtain ⟨h22, hf⟩ := gd_some hf
              obtain ⟨st23, es24⟩ : ∃ z : St, z = sI st 6 a2.toNatClampNeg a3 := ⟨_, rfl⟩
              replace hf := bnd_nm hf es24
              refine w_iast C hw (by decide) (fun f9 => EM_6 X f9 _) h22 rfl dX12_lays_124 (fun H locs hw => ?_)
              rw [← es24] at hw
              refine lv_goto (tgt := 205) hx hb dX12_lays_125 (by decide) ?_
              exact w_vret C hw hr (Option.some.inj hf) dX12_lays_205
            · replace hf := ite_f hf c21
              by_cases c25 : a1 = 6
              · replace hf := ite_t hf c25
                refine lv_tableIn (tgt := 128) hx hb dX12_lays_1 (by rw [c25]; decide) (by rw [c25]; decide) (by rw [c25]; rfl) (by decide) ?_
                refine lv_aload_n hx hb dX12_lays_128 rfl (lv_at hl 0 rfl) ?_
                refine w_get (T := TX12) C hw (by decide) 9 kf_X12_28 (EM_0 X _ _) rfl inA12 (by decide) rfl dX12_lays_129 ?_
                refine lv_iload_n hx hb dX12_lays_132 rfl (lv_at hl 2 rfl) ?_
                refine lv_iload_n hx hb dX12_lays_133 rfl (lv_at hl 3 rfl) ?_
                obtain ⟨h26, hf⟩ := gd_some hf
                obtain ⟨st27, es28⟩ : ∃ z : St, z = sI st 7 a2.toNatClampNeg a3 := ⟨_, rfl⟩
                replace hf := bnd_nm hf es28
                refine w_iast C hw (by decide) (fun f9 => EM_7 X f9 _) h26 rfl dX12_lays_134 (fun H locs hw => ?_)
                rw [← es28] at hw
                refine lv_goto (tgt := 205) hx hb dX12_lays_135 (by decide) ?_
                exact w_vret C hw hr (Option.some.inj hf) dX12_lays_205
              · replace hf := ite_f hf c25
                by_cases c29 : a1 = 7
                · replace hf := ite_t hf c29
                  refine lv_tableIn (tgt := 138) hx hb dX12_lays_1 (by rw [c29]; decide) (by rw [c29]; decide) (by rw [c29]; rfl) (by decide) ?_
                  refine lv_aload_n hx hb dX12_lays_138 rfl (lv_at hl 0 rfl) ?_
                  refine w_get (T := TX12) C hw (by decide) 10 kf_X12_31 (EM_0 X _ _) rfl inA12 (by decide) rfl dX12_lays_139 ?_
                  refine lv_iload_n hx hb dX12_lays_142 rfl (lv_at hl 2 rfl) ?_
                  refine lv_iload_n hx hb dX12_lays_143 rfl (lv_at hl 3 rfl) ?_
                  obtain ⟨h30, hf⟩ := gd_some hf
                  obtain ⟨st31, es32⟩ : ∃ z : St, z = sI st 8 a2.toNatClampNeg a3 := ⟨_, rfl⟩
                  replace hf := bnd_nm hf es32
                  refine w_iast C hw (by decide) (fun f9 => EM_8 X f9 _) h30 rfl dX12_lays_144 (fun H locs hw => ?_)
                  rw [← es32] at hw
                  refine lv_goto (tgt := 205) hx hb dX12_lays_145 (by decide) ?_
                  exact w_vret C hw hr (Option.some.inj hf) dX12_lays_205
                · replace hf := ite_f hf c29
                  by_cases c33 : a1 = 8
                  · replace hf := ite_t hf c33
                    refine lv_tableIn (tgt := 148) hx hb dX12_lays_1 (by rw [c33]; decide) (by rw [c33]; decide) (by rw [c33]; rfl) (by decide) ?_
                    refine lv_aload_n hx hb dX12_lays_148 rfl (lv_at hl 0 rfl) ?_
                    refine w_get (T := TX12) C hw (by decide) 11 kf_X12_34 (EM_0 X _ _) rfl inA12 (by decide) rfl dX12_lays_149 ?_
                    refine lv_iload_n hx hb dX12_lays_152 rfl (lv_at hl 2 rfl) ?_
                    refine lv_iload_n hx hb dX12_lays_153 rfl (lv_at hl 3 rfl) ?_
                    obtain ⟨h34, hf⟩ := gd_some hf
                    obtain ⟨st35, es36⟩ : ∃ z : St, z = sI st 9 a2.toNatClampNeg a3 := ⟨_, rfl⟩
                    replace hf := bnd_nm hf es36
                    refine w_iast C hw (by decide) (fun f9 => EM_9 X f9 _) h34 rfl dX12_lays_154 (fun H locs hw => ?_)
                    rw [← es36] at hw
                    refine lv_goto (tgt := 205) hx hb dX12_lays_155 (by decide) ?_
                    exact w_vret C hw hr (Option.some.inj hf) dX12_lays_205
                  · replace hf := ite_f hf c33
                    by_cases c37 : a1 = 9
                    · replace hf := ite_t hf c37
                      refine lv_tableIn (tgt := 158) hx hb dX12_lays_1 (by rw [c37]; decide) (by rw [c37]; decide) (by rw [c37]; rfl) (by decide) ?_
                      refine lv_aload_n hx hb dX12_lays_158 rfl (lv_at hl 0 rfl) ?_
                      refine w_get (T := TX12) C hw (by decide) 12 kf_X12_37 (EM_0 X _ _) rfl inA12 (by decide) rfl dX12_lays_159 ?_
                      refine lv_iload_n hx hb dX12_lays_162 rfl (lv_at hl 2 rfl) ?_
                      refine lv_iload_n hx hb dX12_lays_163 rfl (lv_at hl 3 rfl) ?_
                      obtain ⟨h38, hf⟩ := gd_some hf
                      obtain ⟨st39, es40⟩ : ∃ z : St, z = sI st 10 a2.toNatClampNeg a3 := ⟨_, rfl⟩
                      replace hf := bnd_nm hf es40
                      refine w_iast C hw (by decide) (fun f9 => EM_10 X f9 _) h38 rfl dX12_lays_164 (fun H locs hw => ?_)
                      rw [← es40] at hw
                      refine lv_goto (tgt := 205) hx hb dX12_lays_165 (by decide) ?_
                      exact w_vret C hw hr (Option.some.inj hf) dX12_lays_205
                    · replace hf := ite_f hf c37
                      by_cases c41 : a1 = 10
                      · replace hf := ite_t hf c41
                        refine lv_tableIn (tgt := 168) hx hb dX12_lays_1 (by rw [c41]; decide) (by rw [c41]; decide) (by rw [c41]; rfl) (by decide) ?_
                        refine lv_aload_n hx hb dX12_lays_168 rfl (lv_at hl 0 rfl) ?_
                        refine w_get (T := TX12) C hw (by decide) 14 kf_X12_40 (EM_0 X _ _) rfl inA12 (by decide) rfl dX12_lays_169 ?_
                        refine lv_iload_n hx hb dX12_lays_172 rfl (lv_at hl 2 rfl) ?_
                        refine lv_iload_n hx hb dX12_lays_173 rfl (lv_at hl 3 rfl) ?_
                        obtain ⟨h42, hf⟩ := gd_some hf
                        obtain ⟨st43, es44⟩ : ∃ z : St, z = sI st 11 a2.toNatClampNeg a3 := ⟨_, rfl⟩
                        replace hf := bnd_nm hf es44
                        refine w_iast C hw (by decide) (fun f9 => EM_11 X f9 _) h42 rfl dX12_lays_174 (fun H locs hw => ?_)
                        rw [← es44] at hw
                        refine lv_goto (tgt := 205) hx hb dX12_lays_175 (by decide) ?_
                        exact w_vret C hw hr (Option.some.inj hf) dX12_lays_205
                      · replace hf := ite_f hf c41
                        by_cases c45 : a1 = 11
                        · replace hf := ite_t hf c45
                          refine lv_tableIn (tgt := 178) hx hb dX12_lays_1 (by rw [c45]; decide) (by rw [c45]; decide) (by rw [c45]; rfl) (by decide) ?_
                          refine lv_aload_n hx hb dX12_lays_178 rfl (lv_at hl 0 rfl) ?_
                          refine w_get (T := TX12) C hw (by decide) 15 kf_X12_43 (EM_0 X _ _) rfl inA12 (by decide) rfl dX12_lays_179 ?_
                          refine lv_iload_n hx hb dX12_lays_182 rfl (lv_at hl 2 rfl) ?_
                          refine lv_iload_n hx hb dX12_lays_183 rfl (lv_at hl 3 rfl) ?_
                          obtain ⟨h46, hf⟩ := gd_some hf
                          obtain ⟨st47, es48⟩ : ∃ z : St, z = sI st 12 a2.toNatClampNeg a3 := ⟨_, rfl⟩
                          replace hf := bnd_nm hf es48
                          refine w_iast C hw (by decide) (fun f9 => EM_12 X f9 _) h46 rfl dX12_lays_184 (fun H locs hw => ?_)
                          rw [← es48] at hw
                          refine lv_goto (tgt := 205) hx hb dX12_lays_185 (by decide) ?_
                          exact w_vret C hw hr (Option.some.inj hf) dX12_lays_205
                        · replace hf := ite_f hf c45
                          by_cases c49 : a1 = 12
                          · replace hf := ite_t hf c49
                            refine lv_tableIn (tgt := 188) hx hb dX12_lays_1 (by rw [c49]; decide) (by rw [c49]; decide) (by rw [c49]; rfl) (by decide) ?_
                            refine lv_aload_n hx hb dX12_lays_188 rfl (lv_at hl 0 rfl) ?_
                            refine w_get (T := TX12) C hw (by decide) 16 kf_X12_46 (EM_0 X _ _) rfl inA12 (by decide) rfl dX12_lays_189 ?_
                            refine lv_iload_n hx hb dX12_lays_192 rfl (lv_at hl 2 rfl) ?_
                            refine lv_iload_n hx hb dX12_lays_193 rfl (lv_at hl 3 rfl) ?_
                            obtain ⟨h50, hf⟩ := gd_some hf
                            obtain ⟨st51, es52⟩ : ∃ z : St, z = sI st 13 a2.toNatClampNeg a3 := ⟨_, rfl⟩
                            replace hf := bnd_nm hf es52
                            refine w_iast C hw (by decide) (fun f9 => EM_13 X f9 _) h50 rfl dX12_lays_194 (fun H locs hw => ?_)
                            rw [← es52] at hw
                            refine lv_goto (tgt := 205) hx hb dX12_lays_195 (by decide) ?_
                            exact w_vret C hw hr (Option.some.inj hf) dX12_lays_205
                          · replace hf := ite_f hf c49
                            refine lv_tableOut (tgt := 198) hx hb dX12_lays_1 (by have q0 := ne_toInt (a := 0) c1 (by decide); have q1 := ne_toInt (a := 1) c5 (by decide); have q2 := ne_toInt (a := 2) c9 (by decide); have q3 := ne_toInt (a := 3) c13 (by decide); have q4 := ne_toInt (a := 4) c17 (by decide); have q5 := ne_toInt (a := 5) c21 (by decide); have q6 := ne_toInt (a := 6) c25 (by decide); have q7 := ne_toInt (a := 7) c29 (by decide); have q8 := ne_toInt (a := 8) c33 (by decide); have q9 := ne_toInt (a := 9) c37 (by decide); have q10 := ne_toInt (a := 10) c41 (by decide); have q11 := ne_toInt (a := 11) c45 (by decide); have q12 := ne_toInt (a := 12) c49 (by decide); omega) (by decide) ?_
                            refine lv_aload_n hx hb dX12_lays_198 rfl (lv_at hl 0 rfl) ?_
                            refine w_get (T := TX12) C hw (by decide) 17 kf_X12_49 (EM_0 X _ _) rfl inA12 (by decide) rfl dX12_lays_199 ?_
                            refine lv_iload_n hx hb dX12_lays_202 rfl (lv_at hl 2 rfl) ?_
                            refine lv_iload_n hx hb dX12_lays_203 rfl (lv_at hl 3 rfl) ?_
                            obtain ⟨h53, hf⟩ := gd_some hf
                            obtain ⟨st54, es55⟩ : ∃ z : St, z = sI st 14 a2.toNatClampNeg a3 := ⟨_, rfl⟩
                            replace hf := bnd_nm hf es55
                            refine w_iast C hw (by decide) (fun f9 => EM_14 X f9 _) h53 rfl dX12_lays_204 (fun H locs hw => ?_)
                            rw [← es55] at hw
                            exact w_vret C hw hr (Option.some.inj hf) dX12_lays_205
theorem dX12_changes_0 : decode cX12_changes 0 = .ok (.aload_n 0, 1) := by decide +kernel
theorem dX12_changes_1 : decode cX12_changes 1 = .ok (.iload_n 1, 1) := by decide +kernel
theorem dX12_changes_2 : decode cX12_changes 2 = .ok (.iload_n 2, 1) := by decide +kernel
theorem dX12_changes_3 : decode cX12_changes 3 = .ok (.invokevirtual 180, 3) := by decide +kernel
theorem dX12_changes_6 : decode cX12_changes 6 = .ok (.istore 4, 2) := by decide +kernel
theorem dX12_changes_8 : decode cX12_changes 8 = .ok (.iload 4, 2) := by decide +kernel
theorem dX12_changes_10 : decode cX12_changes 10 = .ok (.iload_n 3, 1) := by decide +kernel
theorem dX12_changes_11 : decode cX12_changes 11 = .ok (.if_icmp .ne 6, 3) := by decide +kernel
theorem dX12_changes_14 : decode cX12_changes 14 = .ok (.iload 4, 2) := by decide +kernel
theorem dX12_changes_16 : decode cX12_changes 16 = .ok (.ireturn, 1) := by decide +kernel
theorem dX12_changes_17 : decode cX12_changes 17 = .ok (.aload_n 0, 1) := by decide +kernel
theorem dX12_changes_18 : decode cX12_changes 18 = .ok (.iconst 0, 1) := by decide +kernel
theorem dX12_changes_19 : decode cX12_changes 19 = .ok (.putfield 184, 3) := by decide +kernel
theorem dX12_changes_22 : decode cX12_changes 22 = .ok (.aload_n 0, 1) := by decide +kernel
theorem dX12_changes_23 : decode cX12_changes 23 = .ok (.getfield 187, 3) := by decide +kernel
theorem dX12_changes_26 : decode cX12_changes 26 = .ok (.bipush 40, 2) := by decide +kernel
theorem dX12_changes_28 : decode cX12_changes 28 = .ok (.if_icmp .ne 93, 3) := by decide +kernel
theorem dX12_changes_31 : decode cX12_changes 31 = .ok (.iconst 1, 1) := by decide +kernel
theorem dX12_changes_32 : decode cX12_changes 32 = .ok (.istore 5, 2) := by decide +kernel
theorem dX12_changes_34 : decode cX12_changes 34 = .ok (.iload 5, 2) := by decide +kernel
theorem dX12_changes_36 : decode cX12_changes 36 = .ok (.bipush 40, 2) := by decide +kernel
theorem dX12_changes_38 : decode cX12_changes 38 = .ok (.if_icmp .ge 73, 3) := by decide +kernel
theorem dX12_changes_41 : decode cX12_changes 41 = .ok (.aload_n 0, 1) := by decide +kernel
theorem dX12_changes_42 : decode cX12_changes 42 = .ok (.getfield 52, 3) := by decide +kernel
theorem dX12_changes_45 : decode cX12_changes 45 = .ok (.iload 5, 2) := by decide +kernel
theorem dX12_changes_47 : decode cX12_changes 47 = .ok (.iconst 1, 1) := by decide +kernel
theorem dX12_changes_48 : decode cX12_changes 48 = .ok (.isub, 1) := by decide +kernel
theorem dX12_changes_49 : decode cX12_changes 49 = .ok (.aload_n 0, 1) := by decide +kernel
theorem dX12_changes_50 : decode cX12_changes 50 = .ok (.getfield 52, 3) := by decide +kernel
theorem dX12_changes_53 : decode cX12_changes 53 = .ok (.iload 5, 2) := by decide +kernel
theorem dX12_changes_55 : decode cX12_changes 55 = .ok (.iaload, 1) := by decide +kernel
theorem dX12_changes_56 : decode cX12_changes 56 = .ok (.iastore, 1) := by decide +kernel
theorem dX12_changes_57 : decode cX12_changes 57 = .ok (.aload_n 0, 1) := by decide +kernel
theorem dX12_changes_58 : decode cX12_changes 58 = .ok (.getfield 55, 3) := by decide +kernel
theorem dX12_changes_61 : decode cX12_changes 61 = .ok (.iload 5, 2) := by decide +kernel
theorem dX12_changes_63 : decode cX12_changes 63 = .ok (.iconst 1, 1) := by decide +kernel
theorem dX12_changes_64 : decode cX12_changes 64 = .ok (.isub, 1) := by decide +kernel
theorem dX12_changes_65 : decode cX12_changes 65 = .ok (.aload_n 0, 1) := by decide +kernel
theorem dX12_changes_66 : decode cX12_changes 66 = .ok (.getfield 55, 3) := by decide +kernel
theorem dX12_changes_69 : decode cX12_changes 69 = .ok (.iload 5, 2) := by decide +kernel
theorem dX12_changes_71 : decode cX12_changes 71 = .ok (.iaload, 1) := by decide +kernel
theorem dX12_changes_72 : decode cX12_changes 72 = .ok (.iastore, 1) := by decide +kernel
theorem dX12_changes_73 : decode cX12_changes 73 = .ok (.aload_n 0, 1) := by decide +kernel
theorem dX12_changes_74 : decode cX12_changes 74 = .ok (.getfield 58, 3) := by decide +kernel
theorem dX12_changes_77 : decode cX12_changes 77 = .ok (.iload 5, 2) := by decide +kernel
theorem dX12_changes_79 : decode cX12_changes 79 = .ok (.iconst 1, 1) := by decide +kernel
theorem dX12_changes_80 : decode cX12_changes 80 = .ok (.isub, 1) := by decide +kernel
theorem dX12_changes_81 : decode cX12_changes 81 = .ok (.aload_n 0, 1) := by decide +kernel
theorem dX12_changes_82 : decode cX12_changes 82 = .ok (.getfield 58, 3) := by decide +kernel
theorem dX12_changes_85 : decode cX12_changes 85 = .ok (.iload 5, 2) := by decide +kernel
theorem dX12_changes_87 : decode cX12_changes 87 = .ok (.iaload, 1) := by decide +kernel
theorem dX12_changes_88 : decode cX12_changes 88 = .ok (.iastore, 1) := by decide +kernel
theorem dX12_changes_89 : decode cX12_changes 89 = .ok (.aload_n 0, 1) := by decide +kernel
theorem dX12_changes_90 : decode cX12_changes 90 = .ok (.getfield 61, 3) := by decide +kernel
theorem dX12_changes_93 : decode cX12_changes 93 = .ok (.iload 5, 2) := by decide +kernel
theorem dX12_changes_95 : decode cX12_changes 95 = .ok (.iconst 1, 1) := by decide +kernel
theorem dX12_changes_96 : decode cX12_changes 96 = .ok (.isub, 1) := by decide +kernel
theorem dX12_changes_97 : decode cX12_changes 97 = .ok (.aload_n 0, 1) := by decide +kernel
theorem dX12_changes_98 : decode cX12_changes 98 = .ok (.getfield 61, 3) := by decide +kernel
theorem dX12_changes_101 : decode cX12_changes 101 = .ok (.iload 5, 2) := by decide +kernel
theorem dX12_changes_103 : decode cX12_changes 103 = .ok (.iaload, 1) := by decide +kernel
theorem dX12_changes_104 : decode cX12_changes 104 = .ok (.iastore, 1) := by decide +kernel
theorem dX12_changes_105 : decode cX12_changes 105 = .ok (.iinc 5 1, 3) := by decide +kernel
theorem dX12_changes_108 : decode cX12_changes 108 = .ok (.goto (-74), 3) := by decide +kernel
theorem dX12_changes_111 : decode cX12_changes 111 = .ok (.aload_n 0, 1) := by decide +kernel
theorem dX12_changes_112 : decode cX12_changes 112 = .ok (.dup, 1) := by decide +kernel
theorem dX12_changes_113 : decode cX12_changes 113 = .ok (.getfield 187, 3) := by decide +kernel
theorem dX12_changes_116 : decode cX12_changes 116 = .ok (.iconst 1, 1) := by decide +kernel
theorem dX12_changes_117 : decode cX12_changes 117 = .ok (.isub, 1) := by decide +kernel
theorem dX12_changes_118 : decode cX12_changes 118 = .ok (.putfield 187, 3) := by decide +kernel
theorem dX12_changes_121 : decode cX12_changes 121 = .ok (.aload_n 0, 1) := by decide +kernel
theorem dX12_changes_122 : decode cX12_changes 122 = .ok (.getfield 52, 3) := by decide +kernel
theorem dX12_changes_125 : decode cX12_changes 125 = .ok (.aload_n 0, 1) := by decide +kernel
theorem dX12_changes_126 : decode cX12_changes 126 = .ok (.getfield 187, 3) := by decide +kernel
theorem dX12_changes_129 : decode cX12_changes 129 = .ok (.iload_n 1, 1) := by decide +kernel
theorem dX12_changes_130 : decode cX12_changes 130 = .ok (.iastore, 1) := by decide +kernel
theorem dX12_changes_131 : decode cX12_changes 131 = .ok (.aload_n 0, 1) := by decide +kernel
theorem dX12_changes_132 : decode cX12_changes 132 = .ok (.getfield 55, 3) := by decide +kernel
theorem dX12_changes_135 : decode cX12_changes 135 = .ok (.aload_n 0, 1) := by decide +kernel
theorem dX12_changes_136 : decode cX12_changes 136 = .ok (.getfield 187, 3) := by decide +kernel
theorem dX12_changes_139 : decode cX12_changes 139 = .ok (.iload_n 2, 1) := by decide +kernel
theorem dX12_changes_140 : decode cX12_changes 140 = .ok (.iastore, 1) := by decide +kernel
theorem dX12_changes_141 : decode cX12_changes 141 = .ok (.aload_n 0, 1) := by decide +kernel
theorem dX12_changes_142 : decode cX12_changes 142 = .ok (.getfield 58, 3) := by decide +kernel
theorem dX12_changes_145 : decode cX12_changes 145 = .ok (.aload_n 0, 1) := by decide +kernel
theorem dX12_changes_146 : decode cX12_changes 146 = .ok (.getfield 187, 3) := by decide +kernel
theorem dX12_changes_149 : decode cX12_changes 149 = .ok (.iload 4, 2) := by decide +kernel
theorem dX12_changes_151 : decode cX12_changes 151 = .ok (.iastore, 1) := by decide +kernel
theorem dX12_changes_152 : decode cX12_changes 152 = .ok (.aload_n 0, 1) := by decide +kernel
theorem dX12_changes_153 : decode cX12_changes 153 = .ok (.getfield 61, 3) := by decide +kernel
theorem dX12_changes_156 : decode cX12_changes 156 = .ok (.aload_n 0, 1) := by decide +kernel
theorem dX12_changes_157 : decode cX12_changes 157 = .ok (.getfield 187, 3) := by decide +kernel
theorem dX12_changes_160 : decode cX12_changes 160 = .ok (.iload_n 3, 1) := by decide +kernel
theorem dX12_changes_161 : decode cX12_changes 161 = .ok (.iastore, 1) := by decide +kernel
theorem dX12_changes_162 : decode cX12_changes 162 = .ok (.aload_n 0, 1) := by decide +kernel
theorem dX12_changes_163 : decode cX12_changes 163 = .ok (.dup, 1) := by decide +kernel
theorem dX12_changes_164 : decode cX12_changes 164 = .ok (.getfield 187, 3) := by decide +kernel
theorem dX12_changes_167 : decode cX12_changes 167 = .ok (.iconst 1, 1) := by decide +kernel
theorem dX12_changes_168 : decode cX12_changes 168 = .ok (.iadd, 1) := by decide +kernel
theorem dX12_changes_169 : decode cX12_changes 169 = .ok (.putfield 187, 3) := by decide +kernel
theorem dX12_changes_172 : decode cX12_changes 172 = .ok (.aload_n 0, 1) := by decide +kernel
theorem dX12_changes_173 : decode cX12_changes 173 = .ok (.iload_n 1, 1) := by decide +kernel
theorem dX12_changes_174 : decode cX12_changes 174 = .ok (.iload_n 2, 1) := by decide +kernel
theorem dX12_changes_175 : decode cX12_changes 175 = .ok (.iload_n 3, 1) := by decide +kernel
theorem dX12_changes_176 : decode cX12_changes 176 = .ok (.invokevirtual 190, 3) := by decide +kernel
theorem dX12_changes_179 : decode cX12_changes 179 = .ok (.iload 4, 2) := by decide +kernel
theorem dX12_changes_181 : decode cX12_changes 181 = .ok (.ireturn, 1) := by decide +kernel
theorem ok_yX12_changes : yOk yX12_changes 3 := ⟨by decide +kernel, by decide +kernel, by decide +kernel⟩
def fX12_changes_121 (n : Nat) (st : St) (v1 : Int32) (v2 : Int32) (v3 : Int32) (v4 : Int32) : Option (Int32 × St) := gd (inB (gI st 0 18) 40) (bnd (sI st 15 (gI st 0 18).toNatClampNeg v1) (fun st8 => gd (inB (gI st8 0 18) 40) (bnd (sI st8 16 (gI st8 0 18).toNatClampNeg v2) (fun st11 => gd (inB (gI st11 0 18) 40) (bnd (sI st11 17 (gI st11 0 18).toNatClampNeg v4) (fun st14 => gd (inB (gI st14 0 18) 40) (bnd (sI st14 18 (gI st14 0 18).toNatClampNeg v3) (fun st17 => bnd (sI st17 0 18 ((gI st17 0 18) + (1 : Int32))) (fun st19 => (fX12_lays st19 v1 v2 v3).bind (fun r21 => some (v4, r21)))))))))))
set_option maxHeartbeats 4000000 in
theorem tX12_changes_121 {p : Program} {l : Launch} {e : Env} {s : State} {m : MethodId} {args : Array Value} {below : List Frame} {meth : Method} {c : Code} {X : WX} (C : Amb 43 X p s m args meth c cX12_changes 6 RX12) (hr : meth.sig.returnType = some .int) {R : Int32 × St} {n : Nat} : ∀ (st : St) (v1 : Int32) (v2 : Int32) (v3 : Int32) (v4 : Int32) (H : Heap) (locs : List Loc) (ls : Array Slot), Wd EM 43 X s.heap st H locs → lv_has ls 6 [(0, .ref (xq X 0)), (1, .int v1), (2, .int v2), (3, .int v3), (4, .int v4)] → fX12_changes_121 n st v1 v2 v3 v4 = some R → W p l e { frames := 1, cells := 0, slots := 0, locals := 23 } s m args below meth c H locs 0 0 (QI EM 43 X R.1 R.2 below args s) (F0 m 121 ls []) := by
  obtain ⟨hx, hb, hml, hown, hts⟩ := id C.1
  intro st v1 v2 v3 v4 H locs ls  hw hl hf
  unfold fX12_changes_121 at hf
  refine lv_aload_n hx hb dX12_changes_121 rfl (lv_at hl 0 rfl) ?_
  refine w_get (T := TX12) C hw (by decide) 20 kf_X12_52 (EM_0 X _ _) rfl inA12 (by decide) rfl dX12_changes_122 ?_
  refine lv_aload_n hx hb dX12_changes_125 rfl (lv_at hl 0 rfl) ?_
  refine w_get (T := TX12) C hw (by decide) 18 kf_X12_187 (EM_0 X _ _) rfl inA12 (by decide) rfl dX12_changes_126 ?_
  refine lv_iload_n hx hb dX12_changes_129 rfl (lv_at hl 1 rfl) ?_
  obtain ⟨h7, hf⟩ := gd_some hf
  obtain ⟨st8, es9⟩ : ∃ z : St, z = sI st 15 (gI st 0 18).toNatClampNeg v1 := ⟨_, rfl⟩
  replace hf := bnd_nm hf es9
  refine w_iast C hw (by decide) (fun f9 => EM_15 X f9 _) h7 rfl dX12_changes_130 (fun H locs hw => ?_)
  rw [← es9] at hw
  refine lv_aload_n hx hb dX12_changes_131 rfl (lv_at hl 0 rfl) ?_
  refine w_get (T := TX12) C hw (by decide) 21 kf_X12_55 (EM_0 X _ _) rfl inA12 (by decide) rfl dX12_changes_132 ?_
  refine lv_aload_n hx hb dX12_changes_135 rfl (lv_at hl 0 rfl) ?_
  refine w_get (T := TX12) C hw (by decide) 18 kf_X12_187 (EM_0 X _ _) rfl inA12 (by decide) rfl dX12_changes_136 ?_
  refine lv_iload_n hx hb dX12_changes_139 rfl (lv_at hl 2 rfl) ?_
  obtain ⟨h10, hf⟩ := gd_some hf
  obtain ⟨st11, es12⟩ : ∃ z : St, z = sI st8 16 (gI st8 0 18).toNatClampNeg v2 := ⟨_, rfl⟩
  replace hf := bnd_nm hf es12
  refine w_iast C hw (by decide) (fun f9 => EM_16 X f9 _) h10 rfl dX12_changes_140 (fun H locs hw => ?_)
  rw [← es12] at hw
  refine lv_aload_n hx hb dX12_changes_141 rfl (lv_at hl 0 rfl) ?_
  refine w_get (T := TX12) C hw (by decide) 22 kf_X12_58 (EM_0 X _ _) rfl inA12 (by decide) rfl dX12_changes_142 ?_
  refine lv_aload_n hx hb dX12_changes_145 rfl (lv_at hl 0 rfl) ?_
  refine w_get (T := TX12) C hw (by decide) 18 kf_X12_187 (EM_0 X _ _) rfl inA12 (by decide) rfl dX12_changes_146 ?_
  refine lv_iload hx hb dX12_changes_149 (lv_at hl 4 rfl) ?_
  obtain ⟨h13, hf⟩ := gd_some hf
  obtain ⟨st14, es15⟩ : ∃ z : St, z = sI st11 17 (gI st11 0 18).toNatClampNeg v4 := ⟨_, rfl⟩
  replace hf := bnd_nm hf es15
  refine w_iast C hw (by decide) (fun f9 => EM_17 X f9 _) h13 rfl dX12_changes_151 (fun H locs hw => ?_)
  rw [← es15] at hw
  refine lv_aload_n hx hb dX12_changes_152 rfl (lv_at hl 0 rfl) ?_
  refine w_get (T := TX12) C hw (by decide) 23 kf_X12_61 (EM_0 X _ _) rfl inA12 (by decide) rfl dX12_changes_153 ?_
  refine lv_aload_n hx hb dX12_changes_156 rfl (lv_at hl 0 rfl) ?_
  refine w_get (T := TX12) C hw (by decide) 18 kf_X12_187 (EM_0 X _ _) rfl inA12 (by decide) rfl dX12_changes_157 ?_
  refine lv_iload_n hx hb dX12_changes_160 rfl (lv_at hl 3 rfl) ?_
  obtain ⟨h16, hf⟩ := gd_some hf
  obtain ⟨st17, es18⟩ : ∃ z : St, z = sI st14 18 (gI st14 0 18).toNatClampNeg v3 := ⟨_, rfl⟩
  replace hf := bnd_nm hf es18
  refine w_iast C hw (by decide) (fun f9 => EM_18 X f9 _) h16 rfl dX12_changes_161 (fun H locs hw => ?_)
  rw [← es18] at hw
  refine lv_aload_n hx hb dX12_changes_162 rfl (lv_at hl 0 rfl) ?_
  refine lv_dup hx hb dX12_changes_163 rfl ?_
  refine w_get (T := TX12) C hw (by decide) 18 kf_X12_187 (EM_0 X _ _) rfl inA12 (by decide) rfl dX12_changes_164 ?_
  refine lv_iconst (v := 1) hx hb dX12_changes_167 (by decide) ?_
  refine lv_iadd hx hb dX12_changes_168 ?_
  obtain ⟨st19, es20⟩ : ∃ z : St, z = sI st17 0 18 ((gI st17 0 18) + (1 : Int32)) := ⟨_, rfl⟩
  replace hf := bnd_nm hf es20
  refine w_puti (T := TX12) C hw (by decide) 18 kf_X12_187 (EM_0 X _ _) rfl inA12 tyX12_ok nmX12 (by decide) rfl rfl (Nat.le_of_ble_eq_true rfl) rfl dX12_changes_169 (fun H locs hw => ?_)
  rw [← es20] at hw
  refine lv_aload_n hx hb dX12_changes_172 rfl (lv_at hl 0 rfl) ?_
  refine lv_iload_n hx hb dX12_changes_173 rfl (lv_at hl 1 rfl) ?_
  refine lv_iload_n hx hb dX12_changes_174 rfl (lv_at hl 2 rfl) ?_
  refine lv_iload_n hx hb dX12_changes_175 rfl (lv_at hl 3 rfl) ?_
  obtain ⟨r21, k22, hf⟩ := bd_some hf
  refine w_goV hw (w_runV (rest := []) C hw (zX12_lays _ _ st19 v1 v2 v3 r21 k22) (by decide) (EM_0 X _ _) rfl km_X12_190 ki_yX12_lays kv_X12_lays kz_X12 kc_X12_lays rfl ok_yX12_lays ⟨Nat.le_of_ble_eq_true rfl, Nat.le_of_ble_eq_true rfl⟩ rfl rfl rfl rfl hl.1 (Nat.le_of_ble_eq_true rfl) dX12_changes_176 ⟨Nat.zero_le _, Nat.zero_le _⟩) (fun H locs hw => ?_)
  refine lv_iload hx hb dX12_changes_179 (lv_at hl 4 rfl) ?_
  exact w_iret C hw hr (so2 hf).1 (so2 hf).2 dX12_changes_181
def fX12_changes_34 (n : Nat) : Nat → St → Int32 → Int32 → Int32 → Int32 → Int32 → Option (Int32 × St)
  | 0, _, _, _, _, _, _ => none
  | k + 1, st, v1, v2, v3, v4, v5 => if (40 : Int32) ≤ v5 then (bnd (sI st 0 18 ((gI st 0 18) - (1 : Int32))) (fun st24 => fX12_changes_121 n st24 v1 v2 v3 v4)) else (gd (inB v5 40) (gd (inB (v5 - (1 : Int32)) 40) (bnd (sI st 15 (v5 - (1 : Int32)).toNatClampNeg (gI st 15 v5.toNatClampNeg)) (fun st28 => gd (inB v5 40) (gd (inB (v5 - (1 : Int32)) 40) (bnd (sI st28 16 (v5 - (1 : Int32)).toNatClampNeg (gI st28 16 v5.toNatClampNeg)) (fun st32 => gd (inB v5 40) (gd (inB (v5 - (1 : Int32)) 40) (bnd (sI st32 17 (v5 - (1 : Int32)).toNatClampNeg (gI st32 17 v5.toNatClampNeg)) (fun st36 => gd (inB v5 40) (gd (inB (v5 - (1 : Int32)) 40) (bnd (sI st36 18 (v5 - (1 : Int32)).toNatClampNeg (gI st36 18 v5.toNatClampNeg)) (fun st40 => bnd (v5 + (1 : Int32)) (fun x42 => fX12_changes_34 n k st40 v1 v2 v3 v4 x42))))))))))))))
set_option maxHeartbeats 4000000 in
theorem tX12_changes_34 {p : Program} {l : Launch} {e : Env} {s : State} {m : MethodId} {args : Array Value} {below : List Frame} {meth : Method} {c : Code} {X : WX} (C : Amb 43 X p s m args meth c cX12_changes 6 RX12) (hr : meth.sig.returnType = some .int) {R : Int32 × St} {n : Nat} : ∀ (k : Nat) (st : St) (v1 : Int32) (v2 : Int32) (v3 : Int32) (v4 : Int32) (v5 : Int32) (H : Heap) (locs : List Loc) (ls : Array Slot), Wd EM 43 X s.heap st H locs → lv_has ls 6 [(0, .ref (xq X 0)), (1, .int v1), (2, .int v2), (3, .int v3), (4, .int v4), (5, .int v5)] → fX12_changes_34 n k st v1 v2 v3 v4 v5 = some R → W p l e { frames := 1, cells := 0, slots := 0, locals := 23 } s m args below meth c H locs 0 0 (QI EM 43 X R.1 R.2 below args s) (F0 m 34 ls []) := by
  obtain ⟨hx, hb, hml, hown, hts⟩ := id C.1
  intro k
  induction k with
  | zero => intro st v1 v2 v3 v4 v5 H locs ls  hw hl hf; exact absurd (show none = some R from hf) (fun z => by cases z)
  | succ k ih =>
    intro st v1 v2 v3 v4 v5 H locs ls  hw hl hf
    rw [fX12_changes_34] at hf
    refine lv_iload hx hb dX12_changes_34 (lv_at hl 5 rfl) ?_
    refine lv_bipush (v := 40) hx hb dX12_changes_36 (by decide) ?_
    refine lv_icmp_ge (tgt := 111) hx hb dX12_changes_38 (by decide) (fun c23 => ?_) (fun c23 => ?_)
    · replace hf := ite_t hf c23
      refine lv_aload_n hx hb dX12_changes_111 rfl (lv_at hl 0 rfl) ?_
      refine lv_dup hx hb dX12_changes_112 rfl ?_
      refine w_get (T := TX12) C hw (by decide) 18 kf_X12_187 (EM_0 X _ _) rfl inA12 (by decide) rfl dX12_changes_113 ?_
      refine lv_iconst (v := 1) hx hb dX12_changes_116 (by decide) ?_
      refine lv_isub hx hb dX12_changes_117 ?_
      obtain ⟨st24, es25⟩ : ∃ z : St, z = sI st 0 18 ((gI st 0 18) - (1 : Int32)) := ⟨_, rfl⟩
      replace hf := bnd_nm hf es25
      refine w_puti (T := TX12) C hw (by decide) 18 kf_X12_187 (EM_0 X _ _) rfl inA12 tyX12_ok nmX12 (by decide) rfl rfl (Nat.le_of_ble_eq_true rfl) rfl dX12_changes_118 (fun H locs hw => ?_)
      rw [← es25] at hw
      exact tX12_changes_121 C hr st24 v1 v2 v3 v4 _ _ _ hw (lv_sub hl [0, 1, 2, 3, 4] rfl) hf
    · replace hf := ite_f hf c23
      refine lv_aload_n hx hb dX12_changes_41 rfl (lv_at hl 0 rfl) ?_
      refine w_get (T := TX12) C hw (by decide) 20 kf_X12_52 (EM_0 X _ _) rfl inA12 (by decide) rfl dX12_changes_42 ?_
      refine lv_iload hx hb dX12_changes_45 (lv_at hl 5 rfl) ?_
      refine lv_iconst (v := 1) hx hb dX12_changes_47 (by decide) ?_
      refine lv_isub hx hb dX12_changes_48 ?_
      refine lv_aload_n hx hb dX12_changes_49 rfl (lv_at hl 0 rfl) ?_
      refine w_get (T := TX12) C hw (by decide) 20 kf_X12_52 (EM_0 X _ _) rfl inA12 (by decide) rfl dX12_changes_50 ?_
      refine lv_iload hx hb dX12_changes_53 (lv_at hl 5 rfl) ?_
      obtain ⟨h26, hf⟩ := gd_some hf
      refine w_iald C hw (by decide) (EM_15 X _ _) h26 rfl dX12_changes_55 ?_
      obtain ⟨h27, hf⟩ := gd_some hf
      obtain ⟨st28, es29⟩ : ∃ z : St, z = sI st 15 (v5 - (1 : Int32)).toNatClampNeg (gI st 15 v5.toNatClampNeg) := ⟨_, rfl⟩
      replace hf := bnd_nm hf es29
      refine w_iast C hw (by decide) (fun f9 => EM_15 X f9 _) h27 rfl dX12_changes_56 (fun H locs hw => ?_)
      rw [← es29] at hw
      refine lv_aload_n hx hb dX12_changes_57 rfl (lv_at hl 0 rfl) ?_
      refine w_get (T := TX12) C hw (by decide) 21 kf_X12_55 (EM_0 X _ _) rfl inA12 (by decide) rfl dX12_changes_58 ?_
      refine lv_iload hx hb dX12_changes_61 (lv_at hl 5 rfl) ?_
      refine lv_iconst (v := 1) hx hb dX12_changes_63 (by decide) ?_
      refine lv_isub hx hb dX12_changes_64 ?_
      refine lv_aload_n hx hb dX12_changes_65 rfl (lv_at hl 0 rfl) ?_
      refine w_get (T := TX12) C hw (by decide) 21 kf_X12_55 (EM_0 X _ _) rfl inA12 (by decide) rfl dX12_changes_66 ?_
      refine lv_iload hx hb dX12_changes_69 (lv_at hl 5 rfl) ?_
      obtain ⟨h30, hf⟩ := gd_some hf
      refine w_iald C hw (by decide) (EM_16 X _ _) h30 rfl dX12_changes_71 ?_
      obtain ⟨h31, hf⟩ := gd_some hf
      obtain ⟨st32, es33⟩ : ∃ z : St, z = sI st28 16 (v5 - (1 : Int32)).toNatClampNeg (gI st28 16 v5.toNatClampNeg) := ⟨_, rfl⟩
      replace hf := bnd_nm hf es33
      refine w_iast C hw (by decide) (fun f9 => EM_16 X f9 _) h31 rfl dX12_changes_72 (fun H locs hw => ?_)
      rw [← es33] at hw
      refine lv_aload_n hx hb dX12_changes_73 rfl (lv_at hl 0 rfl) ?_
      refine w_get (T := TX12) C hw (by decide) 22 kf_X12_58 (EM_0 X _ _) rfl inA12 (by decide) rfl dX12_changes_74 ?_
      refine lv_iload hx hb dX12_changes_77 (lv_at hl 5 rfl) ?_
      refine lv_iconst (v := 1) hx hb dX12_changes_79 (by decide) ?_
      refine lv_isub hx hb dX12_changes_80 ?_
      refine lv_aload_n hx hb dX12_changes_81 rfl (lv_at hl 0 rfl) ?_
      refine w_get (T := TX12) C hw (by decide) 22 kf_X12_58 (EM_0 X _ _) rfl inA12 (by decide) rfl dX12_changes_82 ?_
      refine lv_iload hx hb dX12_changes_85 (lv_at hl 5 rfl) ?_
      obtain ⟨h34, hf⟩ := gd_some hf
      refine w_iald C hw (by decide) (EM_17 X _ _) h34 rfl dX12_changes_87 ?_
      obtain ⟨h35, hf⟩ := gd_some hf
      obtain ⟨st36, es37⟩ : ∃ z : St, z = sI st32 17 (v5 - (1 : Int32)).toNatClampNeg (gI st32 17 v5.toNatClampNeg) := ⟨_, rfl⟩
      replace hf := bnd_nm hf es37
      refine w_iast C hw (by decide) (fun f9 => EM_17 X f9 _) h35 rfl dX12_changes_88 (fun H locs hw => ?_)
      rw [← es37] at hw
      refine lv_aload_n hx hb dX12_changes_89 rfl (lv_at hl 0 rfl) ?_
      refine w_get (T := TX12) C hw (by decide) 23 kf_X12_61 (EM_0 X _ _) rfl inA12 (by decide) rfl dX12_changes_90 ?_
      refine lv_iload hx hb dX12_changes_93 (lv_at hl 5 rfl) ?_
      refine lv_iconst (v := 1) hx hb dX12_changes_95 (by decide) ?_
      refine lv_isub hx hb dX12_changes_96 ?_
      refine lv_aload_n hx hb dX12_changes_97 rfl (lv_at hl 0 rfl) ?_
      refine w_get (T := TX12) C hw (by decide) 23 kf_X12_61 (EM_0 X _ _) rfl inA12 (by decide) rfl dX12_changes_98 ?_
      refine lv_iload hx hb dX12_changes_101 (lv_at hl 5 rfl) ?_
      obtain ⟨h38, hf⟩ := gd_some hf
      refine w_iald C hw (by decide) (EM_18 X _ _) h38 rfl dX12_changes_103 ?_
      obtain ⟨h39, hf⟩ := gd_some hf
      obtain ⟨st40, es41⟩ : ∃ z : St, z = sI st36 18 (v5 - (1 : Int32)).toNatClampNeg (gI st36 18 v5.toNatClampNeg) := ⟨_, rfl⟩
      replace hf := bnd_nm hf es41
      refine w_iast C hw (by decide) (fun f9 => EM_18 X f9 _) h39 rfl dX12_changes_104 (fun H locs hw => ?_)
      rw [← es41] at hw
      obtain ⟨x42, e43⟩ : ∃ z : Int32, z = v5 + (1 : Int32) := ⟨_, rfl⟩
      replace hf := bnd_nm hf e43
      refine lv_iinc (v := x42) (lv' := [(5, .int x42), (0, .ref (xq X 0)), (1, .int v1), (2, .int v2), (3, .int v3), (4, .int v4)]) hx hb dX12_changes_105 hl (k := 5) rfl (by rw [e43]; rfl) (by decide) rfl (fun ls hl => ?_)
      refine lv_goto (tgt := 34) hx hb dX12_changes_108 (by decide) ?_
      exact ih st40 v1 v2 v3 v4 x42 _ _ _ hw (lv_sub hl [1, 2, 3, 4, 5, 0] rfl) hf
def fX12_changes (n : Nat) (st : St) (a1 : Int32) (a2 : Int32) (a3 : Int32) : Option (Int32 × St) := (fX12_valueAt st a1 a2).bind (fun r1 => if r1 = a3 then (some (r1, st)) else (bnd (sI st 0 19 (0 : Int32)) (fun st4 => if gI st4 0 18 = (40 : Int32) then (fX12_changes_34 n n st4 a1 a2 a3 r1 (1 : Int32)) else (fX12_changes_121 n st4 a1 a2 a3 r1))))
set_option maxHeartbeats 4000000 in
theorem zX12_changes (l : Launch) (X : WX) (n : Nat) (st : St) (a1 : Int32) (a2 : Int32) (a3 : Int32) (R : Int32 × St) (hf : fX12_changes n st a1 a2 a3 = some R) : CtI l yX12_changes cX12_changes 6 .int ({ frames := 1, cells := 0, slots := 0, locals := 23 }) EM 43 X [.ref (xq X 0), .int a1, .int a2, .int a3] st R.1 R.2 := by
  refine ct_in (own := RX12) (by decide +kernel) rfl (Nat.le_of_ble_eq_true rfl) (fun p e s m below meth c C hr hw ls hl => ?_)
  obtain ⟨hx, hb, hml, hown, hts⟩ := id C.1
  have hl : lv_has ls 6 [(0, .ref (xq X 0)), (1, .int a1), (2, .int a2), (3, .int a3)] := hl
  unfold fX12_changes at hf
  refine lv_aload_n hx hb dX12_changes_0 rfl (lv_at hl 0 rfl) ?_
  refine lv_iload_n hx hb dX12_changes_1 rfl (lv_at hl 1 rfl) ?_
  refine lv_iload_n hx hb dX12_changes_2 rfl (lv_at hl 2 rfl) ?_
  obtain ⟨r1, k2, hf⟩ := bd_some hf
  refine w_goI hw (w_runV (rest := []) C hw (zX12_valueAt _ _ st a1 a2 r1 k2) (by decide) (EM_0 X _ _) rfl km_X12_180 ki_yX12_valueAt kv_X12_valueAt kz_X12 kc_X12_valueAt rfl ok_yX12_valueAt ⟨Nat.le_of_ble_eq_true rfl, Nat.le_of_ble_eq_true rfl⟩ rfl rfl rfl rfl hl.1 (Nat.le_of_ble_eq_true rfl) dX12_changes_3 ⟨Nat.zero_le _, Nat.zero_le _⟩) (fun H locs hw => ?_)
  refine lv_istore (lv' := [(4, .int r1), (0, .ref (xq X 0)), (1, .int a1), (2, .int a2), (3, .int a3)]) hx hb dX12_changes_6 hl (by decide) rfl (fun ls hl => ?_)
  refine lv_iload hx hb dX12_changes_8 (lv_at hl 0 rfl) ?_
  refine lv_iload_n hx hb dX12_changes_10 rfl (lv_at hl 4 rfl) ?_
  refine lv_icmp_ne (tgt := 17) hx hb dX12_changes_11 (by decide) (fun c3 => ?_) (fun c3 => ?_)
  · replace hf := ite_f hf c3
    refine lv_aload_n hx hb dX12_changes_17 rfl (lv_at hl 1 rfl) ?_
    refine lv_iconst (v := 0) hx hb dX12_changes_18 (by decide) ?_
    obtain ⟨st4, es5⟩ : ∃ z : St, z = sI st 0 19 (0 : Int32) := ⟨_, rfl⟩
    replace hf := bnd_nm hf es5
    refine w_puti (T := TX12) C hw (by decide) 19 kf_X12_184 (EM_0 X _ _) rfl inA12 tyX12_ok nmX12 (by decide) rfl rfl (Nat.le_of_ble_eq_true rfl) rfl dX12_changes_19 (fun H locs hw => ?_)
    rw [← es5] at hw
    refine lv_aload_n hx hb dX12_changes_22 rfl (lv_at hl 1 rfl) ?_
    refine w_get (T := TX12) C hw (by decide) 18 kf_X12_187 (EM_0 X _ _) rfl inA12 (by decide) rfl dX12_changes_23 ?_
    refine lv_bipush (v := 40) hx hb dX12_changes_26 (by decide) ?_
    refine lv_icmp_ne (tgt := 121) hx hb dX12_changes_28 (by decide) (fun c6 => ?_) (fun c6 => ?_)
    · replace hf := ite_f hf c6
      exact tX12_changes_121 C hr st4 a1 a2 a3 r1 _ _ _ hw (lv_sub hl [1, 2, 3, 4, 0] rfl) hf
    · replace hf := ite_t hf c6
      refine lv_iconst (v := 1) hx hb dX12_changes_31 (by decide) ?_
      refine lv_istore (lv' := [(5, .int (1 : Int32)), (4, .int r1), (0, .ref (xq X 0)), (1, .int a1), (2, .int a2), (3, .int a3)]) hx hb dX12_changes_32 hl (by decide) rfl (fun ls hl => ?_)
      exact tX12_changes_34 C hr n st4 a1 a2 a3 r1 (1 : Int32) _ _ _ hw (lv_sub hl [2, 3, 4, 5, 1, 0] rfl) hf
  · replace hf := ite_t hf c3
    refine lv_iload hx hb dX12_changes_14 (lv_at hl 0 rfl) ?_
    exact w_iret C hw hr (so2 hf).1 (so2 hf).2 dX12_changes_16
theorem dX12_undo_0 : decode cX12_undo 0 = .ok (.aload_n 0, 1) := by decide +kernel
theorem dX12_undo_1 : decode cX12_undo 1 = .ok (.getfield 187, 3) := by decide +kernel
theorem dX12_undo_4 : decode cX12_undo 4 = .ok (.ifCond .ne 6, 3) := by decide +kernel
theorem dX12_undo_7 : decode cX12_undo 7 = .ok (.bipush (-5), 2) := by decide +kernel
theorem dX12_undo_9 : decode cX12_undo 9 = .ok (.ireturn, 1) := by decide +kernel
theorem dX12_undo_10 : decode cX12_undo 10 = .ok (.aload_n 0, 1) := by decide +kernel
theorem dX12_undo_11 : decode cX12_undo 11 = .ok (.dup, 1) := by decide +kernel
theorem dX12_undo_12 : decode cX12_undo 12 = .ok (.getfield 187, 3) := by decide +kernel
theorem dX12_undo_15 : decode cX12_undo 15 = .ok (.iconst 1, 1) := by decide +kernel
theorem dX12_undo_16 : decode cX12_undo 16 = .ok (.isub, 1) := by decide +kernel
theorem dX12_undo_17 : decode cX12_undo 17 = .ok (.putfield 187, 3) := by decide +kernel
theorem dX12_undo_20 : decode cX12_undo 20 = .ok (.aload_n 0, 1) := by decide +kernel
theorem dX12_undo_21 : decode cX12_undo 21 = .ok (.dup, 1) := by decide +kernel
theorem dX12_undo_22 : decode cX12_undo 22 = .ok (.getfield 184, 3) := by decide +kernel
theorem dX12_undo_25 : decode cX12_undo 25 = .ok (.iconst 1, 1) := by decide +kernel
theorem dX12_undo_26 : decode cX12_undo 26 = .ok (.iadd, 1) := by decide +kernel
theorem dX12_undo_27 : decode cX12_undo 27 = .ok (.putfield 184, 3) := by decide +kernel
theorem dX12_undo_30 : decode cX12_undo 30 = .ok (.aload_n 0, 1) := by decide +kernel
theorem dX12_undo_31 : decode cX12_undo 31 = .ok (.aload_n 0, 1) := by decide +kernel
theorem dX12_undo_32 : decode cX12_undo 32 = .ok (.getfield 52, 3) := by decide +kernel
theorem dX12_undo_35 : decode cX12_undo 35 = .ok (.aload_n 0, 1) := by decide +kernel
theorem dX12_undo_36 : decode cX12_undo 36 = .ok (.getfield 187, 3) := by decide +kernel
theorem dX12_undo_39 : decode cX12_undo 39 = .ok (.iaload, 1) := by decide +kernel
theorem dX12_undo_40 : decode cX12_undo 40 = .ok (.aload_n 0, 1) := by decide +kernel
theorem dX12_undo_41 : decode cX12_undo 41 = .ok (.getfield 55, 3) := by decide +kernel
theorem dX12_undo_44 : decode cX12_undo 44 = .ok (.aload_n 0, 1) := by decide +kernel
theorem dX12_undo_45 : decode cX12_undo 45 = .ok (.getfield 187, 3) := by decide +kernel
theorem dX12_undo_48 : decode cX12_undo 48 = .ok (.iaload, 1) := by decide +kernel
theorem dX12_undo_49 : decode cX12_undo 49 = .ok (.aload_n 0, 1) := by decide +kernel
theorem dX12_undo_50 : decode cX12_undo 50 = .ok (.getfield 58, 3) := by decide +kernel
theorem dX12_undo_53 : decode cX12_undo 53 = .ok (.aload_n 0, 1) := by decide +kernel
theorem dX12_undo_54 : decode cX12_undo 54 = .ok (.getfield 187, 3) := by decide +kernel
theorem dX12_undo_57 : decode cX12_undo 57 = .ok (.iaload, 1) := by decide +kernel
theorem dX12_undo_58 : decode cX12_undo 58 = .ok (.invokevirtual 190, 3) := by decide +kernel
theorem dX12_undo_61 : decode cX12_undo 61 = .ok (.aload_n 0, 1) := by decide +kernel
theorem dX12_undo_62 : decode cX12_undo 62 = .ok (.getfield 187, 3) := by decide +kernel
theorem dX12_undo_65 : decode cX12_undo 65 = .ok (.ireturn, 1) := by decide +kernel
theorem ok_yX12_undo : yOk yX12_undo 0 := ⟨by decide +kernel, by decide +kernel, by decide +kernel⟩
def fX12_undo (st : St) : Option (Int32 × St) := if gI st 0 18 = 0 then (some ((-5 : Int32), st)) else (bnd (sI st 0 18 ((gI st 0 18) - (1 : Int32))) (fun st2 => bnd (sI st2 0 19 ((gI st2 0 19) + (1 : Int32))) (fun st4 => gd (inB (gI st4 0 18) 40) (gd (inB (gI st4 0 18) 40) (gd (inB (gI st4 0 18) 40) ((fX12_lays st4 (gI st4 15 (gI st4 0 18).toNatClampNeg) (gI st4 16 (gI st4 0 18).toNatClampNeg) (gI st4 17 (gI st4 0 18).toNatClampNeg)).bind (fun r9 => some ((gI r9 0 18), r9))))))))
set_option maxHeartbeats 4000000 in
theorem zX12_undo (l : Launch) (X : WX) (st : St)  (R : Int32 × St) (hf : fX12_undo st = some R) : CtI l yX12_undo cX12_undo 1 .int ({ frames := 1, cells := 0, slots := 0, locals := 23 }) EM 43 X [.ref (xq X 0)] st R.1 R.2 := by
  refine ct_in (own := RX12) (by decide +kernel) rfl (Nat.le_of_ble_eq_true rfl) (fun p e s m below meth c C hr hw ls hl => ?_)
  obtain ⟨hx, hb, hml, hown, hts⟩ := id C.1
  have hl : lv_has ls 1 [(0, .ref (xq X 0))] := hl
  unfold fX12_undo at hf
  refine lv_aload_n hx hb dX12_undo_0 rfl (lv_at hl 0 rfl) ?_
  refine w_get (T := TX12) C hw (by decide) 18 kf_X12_187 (EM_0 X _ _) rfl inA12 (by decide) rfl dX12_undo_1 ?_
  refine lv_if_ne (tgt := 10) hx hb dX12_undo_4 (by decide) (fun c1 => ?_) (fun c1 => ?_)
  · replace hf := ite_f hf c1
    refine lv_aload_n hx hb dX12_undo_10 rfl (lv_at hl 0 rfl) ?_
    refine lv_dup hx hb dX12_undo_11 rfl ?_
    refine w_get (T := TX12) C hw (by decide) 18 kf_X12_187 (EM_0 X _ _) rfl inA12 (by decide) rfl dX12_undo_12 ?_
    refine lv_iconst (v := 1) hx hb dX12_undo_15 (by decide) ?_
    refine lv_isub hx hb dX12_undo_16 ?_
    obtain ⟨st2, es3⟩ : ∃ z : St, z = sI st 0 18 ((gI st 0 18) - (1 : Int32)) := ⟨_, rfl⟩
    replace hf := bnd_nm hf es3
    refine w_puti (T := TX12) C hw (by decide) 18 kf_X12_187 (EM_0 X _ _) rfl inA12 tyX12_ok nmX12 (by decide) rfl rfl (Nat.le_of_ble_eq_true rfl) rfl dX12_undo_17 (fun H locs hw => ?_)
    rw [← es3] at hw
    refine lv_aload_n hx hb dX12_undo_20 rfl (lv_at hl 0 rfl) ?_
    refine lv_dup hx hb dX12_undo_21 rfl ?_
    refine w_get (T := TX12) C hw (by decide) 19 kf_X12_184 (EM_0 X _ _) rfl inA12 (by decide) rfl dX12_undo_22 ?_
    refine lv_iconst (v := 1) hx hb dX12_undo_25 (by decide) ?_
    refine lv_iadd hx hb dX12_undo_26 ?_
    obtain ⟨st4, es5⟩ : ∃ z : St, z = sI st2 0 19 ((gI st2 0 19) + (1 : Int32)) := ⟨_, rfl⟩
    replace hf := bnd_nm hf es5
    refine w_puti (T := TX12) C hw (by decide) 19 kf_X12_184 (EM_0 X _ _) rfl inA12 tyX12_ok nmX12 (by decide) rfl rfl (Nat.le_of_ble_eq_true rfl) rfl dX12_undo_27 (fun H locs hw => ?_)
    rw [← es5] at hw
    refine lv_aload_n hx hb dX12_undo_30 rfl (lv_at hl 0 rfl) ?_
    refine lv_aload_n hx hb dX12_undo_31 rfl (lv_at hl 0 rfl) ?_
    refine w_get (T := TX12) C hw (by decide) 20 kf_X12_52 (EM_0 X _ _) rfl inA12 (by decide) rfl dX12_undo_32 ?_
    refine lv_aload_n hx hb dX12_undo_35 rfl (lv_at hl 0 rfl) ?_
    refine w_get (T := TX12) C hw (by decide) 18 kf_X12_187 (EM_0 X _ _) rfl inA12 (by decide) rfl dX12_undo_36 ?_
    obtain ⟨h6, hf⟩ := gd_some hf
    refine w_iald C hw (by decide) (EM_15 X _ _) h6 rfl dX12_undo_39 ?_
    refine lv_aload_n hx hb dX12_undo_40 rfl (lv_at hl 0 rfl) ?_
    refine w_get (T := TX12) C hw (by decide) 21 kf_X12_55 (EM_0 X _ _) rfl inA12 (by decide) rfl dX12_undo_41 ?_
    refine lv_aload_n hx hb dX12_undo_44 rfl (lv_at hl 0 rfl) ?_
    refine w_get (T := TX12) C hw (by decide) 18 kf_X12_187 (EM_0 X _ _) rfl inA12 (by decide) rfl dX12_undo_45 ?_
    obtain ⟨h7, hf⟩ := gd_some hf
    refine w_iald C hw (by decide) (EM_16 X _ _) h7 rfl dX12_undo_48 ?_
    refine lv_aload_n hx hb dX12_undo_49 rfl (lv_at hl 0 rfl) ?_
    refine w_get (T := TX12) C hw (by decide) 22 kf_X12_58 (EM_0 X _ _) rfl inA12 (by decide) rfl dX12_undo_50 ?_
    refine lv_aload_n hx hb dX12_undo_53 rfl (lv_at hl 0 rfl) ?_
    refine w_get (T := TX12) C hw (by decide) 18 kf_X12_187 (EM_0 X _ _) rfl inA12 (by decide) rfl dX12_undo_54 ?_
    obtain ⟨h8, hf⟩ := gd_some hf
    refine w_iald C hw (by decide) (EM_17 X _ _) h8 rfl dX12_undo_57 ?_
    obtain ⟨r9, k10, hf⟩ := bd_some hf
    refine w_goV hw (w_runV (rest := []) C hw (zX12_lays _ _ st4 (gI st4 15 (gI st4 0 18).toNatClampNeg) (gI st4 16 (gI st4 0 18).toNatClampNeg) (gI st4 17 (gI st4 0 18).toNatClampNeg) r9 k10) (by decide) (EM_0 X _ _) rfl km_X12_190 ki_yX12_lays kv_X12_lays kz_X12 kc_X12_lays rfl ok_yX12_lays ⟨Nat.le_of_ble_eq_true rfl, Nat.le_of_ble_eq_true rfl⟩ rfl rfl rfl rfl hl.1 (Nat.le_of_ble_eq_true rfl) dX12_undo_58 ⟨Nat.zero_le _, Nat.zero_le _⟩) (fun H locs hw => ?_)
    refine lv_aload_n hx hb dX12_undo_61 rfl (lv_at hl 0 rfl) ?_
    refine w_get (T := TX12) C hw (by decide) 18 kf_X12_187 (EM_0 X _ _) rfl inA12 (by decide) rfl dX12_undo_62 ?_
    exact w_iret C hw hr (so2 hf).1 (so2 hf).2 dX12_undo_65
  · replace hf := ite_t hf c1
    refine lv_bipush (v := -5) hx hb dX12_undo_7 (by decide) ?_
    exact w_iret C hw hr (so2 hf).1 (so2 hf).2 dX12_undo_9
theorem dX12_redo_0 : decode cX12_redo 0 = .ok (.aload_n 0, 1) := by decide +kernel
theorem dX12_redo_1 : decode cX12_redo 1 = .ok (.getfield 184, 3) := by decide +kernel
theorem dX12_redo_4 : decode cX12_redo 4 = .ok (.ifCond .ne 6, 3) := by decide +kernel
theorem dX12_redo_7 : decode cX12_redo 7 = .ok (.bipush (-5), 2) := by decide +kernel
theorem dX12_redo_9 : decode cX12_redo 9 = .ok (.ireturn, 1) := by decide +kernel
theorem dX12_redo_10 : decode cX12_redo 10 = .ok (.aload_n 0, 1) := by decide +kernel
theorem dX12_redo_11 : decode cX12_redo 11 = .ok (.aload_n 0, 1) := by decide +kernel
theorem dX12_redo_12 : decode cX12_redo 12 = .ok (.getfield 52, 3) := by decide +kernel
theorem dX12_redo_15 : decode cX12_redo 15 = .ok (.aload_n 0, 1) := by decide +kernel
theorem dX12_redo_16 : decode cX12_redo 16 = .ok (.getfield 187, 3) := by decide +kernel
theorem dX12_redo_19 : decode cX12_redo 19 = .ok (.iaload, 1) := by decide +kernel
theorem dX12_redo_20 : decode cX12_redo 20 = .ok (.aload_n 0, 1) := by decide +kernel
theorem dX12_redo_21 : decode cX12_redo 21 = .ok (.getfield 55, 3) := by decide +kernel
theorem dX12_redo_24 : decode cX12_redo 24 = .ok (.aload_n 0, 1) := by decide +kernel
theorem dX12_redo_25 : decode cX12_redo 25 = .ok (.getfield 187, 3) := by decide +kernel
theorem dX12_redo_28 : decode cX12_redo 28 = .ok (.iaload, 1) := by decide +kernel
theorem dX12_redo_29 : decode cX12_redo 29 = .ok (.aload_n 0, 1) := by decide +kernel
theorem dX12_redo_30 : decode cX12_redo 30 = .ok (.getfield 61, 3) := by decide +kernel
theorem dX12_redo_33 : decode cX12_redo 33 = .ok (.aload_n 0, 1) := by decide +kernel
theorem dX12_redo_34 : decode cX12_redo 34 = .ok (.getfield 187, 3) := by decide +kernel
theorem dX12_redo_37 : decode cX12_redo 37 = .ok (.iaload, 1) := by decide +kernel
theorem dX12_redo_38 : decode cX12_redo 38 = .ok (.invokevirtual 190, 3) := by decide +kernel
theorem dX12_redo_41 : decode cX12_redo 41 = .ok (.aload_n 0, 1) := by decide +kernel
theorem dX12_redo_42 : decode cX12_redo 42 = .ok (.dup, 1) := by decide +kernel
theorem dX12_redo_43 : decode cX12_redo 43 = .ok (.getfield 187, 3) := by decide +kernel
theorem dX12_redo_46 : decode cX12_redo 46 = .ok (.iconst 1, 1) := by decide +kernel
theorem dX12_redo_47 : decode cX12_redo 47 = .ok (.iadd, 1) := by decide +kernel
theorem dX12_redo_48 : decode cX12_redo 48 = .ok (.putfield 187, 3) := by decide +kernel
theorem dX12_redo_51 : decode cX12_redo 51 = .ok (.aload_n 0, 1) := by decide +kernel
theorem dX12_redo_52 : decode cX12_redo 52 = .ok (.dup, 1) := by decide +kernel
theorem dX12_redo_53 : decode cX12_redo 53 = .ok (.getfield 184, 3) := by decide +kernel
theorem dX12_redo_56 : decode cX12_redo 56 = .ok (.iconst 1, 1) := by decide +kernel
theorem dX12_redo_57 : decode cX12_redo 57 = .ok (.isub, 1) := by decide +kernel
theorem dX12_redo_58 : decode cX12_redo 58 = .ok (.putfield 184, 3) := by decide +kernel
theorem dX12_redo_61 : decode cX12_redo 61 = .ok (.aload_n 0, 1) := by decide +kernel
theorem dX12_redo_62 : decode cX12_redo 62 = .ok (.getfield 184, 3) := by decide +kernel
theorem dX12_redo_65 : decode cX12_redo 65 = .ok (.ireturn, 1) := by decide +kernel
theorem ok_yX12_redo : yOk yX12_redo 0 := ⟨by decide +kernel, by decide +kernel, by decide +kernel⟩
def fX12_redo (st : St) : Option (Int32 × St) := if gI st 0 19 = 0 then (some ((-5 : Int32), st)) else (gd (inB (gI st 0 18) 40) (gd (inB (gI st 0 18) 40) (gd (inB (gI st 0 18) 40) ((fX12_lays st (gI st 15 (gI st 0 18).toNatClampNeg) (gI st 16 (gI st 0 18).toNatClampNeg) (gI st 18 (gI st 0 18).toNatClampNeg)).bind (fun r5 => bnd (sI r5 0 18 ((gI r5 0 18) + (1 : Int32))) (fun st7 => bnd (sI st7 0 19 ((gI st7 0 19) - (1 : Int32))) (fun st9 => some ((gI st9 0 19), st9))))))))
set_option maxHeartbeats 4000000 in
theorem zX12_redo (l : Launch) (X : WX) (st : St)  (R : Int32 × St) (hf : fX12_redo st = some R) : CtI l yX12_redo cX12_redo 1 .int ({ frames := 1, cells := 0, slots := 0, locals := 23 }) EM 43 X [.ref (xq X 0)] st R.1 R.2 := by
  refine ct_in (own := RX12) (by decide +kernel) rfl (Nat.le_of_ble_eq_true rfl) (fun p e s m below meth c C hr hw ls hl => ?_)
  obtain ⟨hx, hb, hml, hown, hts⟩ := id C.1
  have hl : lv_has ls 1 [(0, .ref (xq X 0))] := hl
  unfold fX12_redo at hf
  refine lv_aload_n hx hb dX12_redo_0 rfl (lv_at hl 0 rfl) ?_
  refine w_get (T := TX12) C hw (by decide) 19 kf_X12_184 (EM_0 X _ _) rfl inA12 (by decide) rfl dX12_redo_1 ?_
  refine lv_if_ne (tgt := 10) hx hb dX12_redo_4 (by decide) (fun c1 => ?_) (fun c1 => ?_)
  · replace hf := ite_f hf c1
    refine lv_aload_n hx hb dX12_redo_10 rfl (lv_at hl 0 rfl) ?_
    refine lv_aload_n hx hb dX12_redo_11 rfl (lv_at hl 0 rfl) ?_
    refine w_get (T := TX12) C hw (by decide) 20 kf_X12_52 (EM_0 X _ _) rfl inA12 (by decide) rfl dX12_redo_12 ?_
    refine lv_aload_n hx hb dX12_redo_15 rfl (lv_at hl 0 rfl) ?_
    refine w_get (T := TX12) C hw (by decide) 18 kf_X12_187 (EM_0 X _ _) rfl inA12 (by decide) rfl dX12_redo_16 ?_
    obtain ⟨h2, hf⟩ := gd_some hf
    refine w_iald C hw (by decide) (EM_15 X _ _) h2 rfl dX12_redo_19 ?_
    refine lv_aload_n hx hb dX12_redo_20 rfl (lv_at hl 0 rfl) ?_
    refine w_get (T := TX12) C hw (by decide) 21 kf_X12_55 (EM_0 X _ _) rfl inA12 (by decide) rfl dX12_redo_21 ?_
    refine lv_aload_n hx hb dX12_redo_24 rfl (lv_at hl 0 rfl) ?_
    refine w_get (T := TX12) C hw (by decide) 18 kf_X12_187 (EM_0 X _ _) rfl inA12 (by decide) rfl dX12_redo_25 ?_
    obtain ⟨h3, hf⟩ := gd_some hf
    refine w_iald C hw (by decide) (EM_16 X _ _) h3 rfl dX12_redo_28 ?_
    refine lv_aload_n hx hb dX12_redo_29 rfl (lv_at hl 0 rfl) ?_
    refine w_get (T := TX12) C hw (by decide) 23 kf_X12_61 (EM_0 X _ _) rfl inA12 (by decide) rfl dX12_redo_30 ?_
    refine lv_aload_n hx hb dX12_redo_33 rfl (lv_at hl 0 rfl) ?_
    refine w_get (T := TX12) C hw (by decide) 18 kf_X12_187 (EM_0 X _ _) rfl inA12 (by decide) rfl dX12_redo_34 ?_
    obtain ⟨h4, hf⟩ := gd_some hf
    refine w_iald C hw (by decide) (EM_18 X _ _) h4 rfl dX12_redo_37 ?_
    obtain ⟨r5, k6, hf⟩ := bd_some hf
    refine w_goV hw (w_runV (rest := []) C hw (zX12_lays _ _ st (gI st 15 (gI st 0 18).toNatClampNeg) (gI st 16 (gI st 0 18).toNatClampNeg) (gI st 18 (gI st 0 18).toNatClampNeg) r5 k6) (by decide) (EM_0 X _ _) rfl km_X12_190 ki_yX12_lays kv_X12_lays kz_X12 kc_X12_lays rfl ok_yX12_lays ⟨Nat.le_of_ble_eq_true rfl, Nat.le_of_ble_eq_true rfl⟩ rfl rfl rfl rfl hl.1 (Nat.le_of_ble_eq_true rfl) dX12_redo_38 ⟨Nat.zero_le _, Nat.zero_le _⟩) (fun H locs hw => ?_)
    refine lv_aload_n hx hb dX12_redo_41 rfl (lv_at hl 0 rfl) ?_
    refine lv_dup hx hb dX12_redo_42 rfl ?_
    refine w_get (T := TX12) C hw (by decide) 18 kf_X12_187 (EM_0 X _ _) rfl inA12 (by decide) rfl dX12_redo_43 ?_
    refine lv_iconst (v := 1) hx hb dX12_redo_46 (by decide) ?_
    refine lv_iadd hx hb dX12_redo_47 ?_
    obtain ⟨st7, es8⟩ : ∃ z : St, z = sI r5 0 18 ((gI r5 0 18) + (1 : Int32)) := ⟨_, rfl⟩
    replace hf := bnd_nm hf es8
    refine w_puti (T := TX12) C hw (by decide) 18 kf_X12_187 (EM_0 X _ _) rfl inA12 tyX12_ok nmX12 (by decide) rfl rfl (Nat.le_of_ble_eq_true rfl) rfl dX12_redo_48 (fun H locs hw => ?_)
    rw [← es8] at hw
    refine lv_aload_n hx hb dX12_redo_51 rfl (lv_at hl 0 rfl) ?_
    refine lv_dup hx hb dX12_redo_52 rfl ?_
    refine w_get (T := TX12) C hw (by decide) 19 kf_X12_184 (EM_0 X _ _) rfl inA12 (by decide) rfl dX12_redo_53 ?_
    refine lv_iconst (v := 1) hx hb dX12_redo_56 (by decide) ?_
    refine lv_isub hx hb dX12_redo_57 ?_
    obtain ⟨st9, es10⟩ : ∃ z : St, z = sI st7 0 19 ((gI st7 0 19) - (1 : Int32)) := ⟨_, rfl⟩
    replace hf := bnd_nm hf es10
    refine w_puti (T := TX12) C hw (by decide) 19 kf_X12_184 (EM_0 X _ _) rfl inA12 tyX12_ok nmX12 (by decide) rfl rfl (Nat.le_of_ble_eq_true rfl) rfl dX12_redo_58 (fun H locs hw => ?_)
    rw [← es10] at hw
    refine lv_aload_n hx hb dX12_redo_61 rfl (lv_at hl 0 rfl) ?_
    refine w_get (T := TX12) C hw (by decide) 19 kf_X12_184 (EM_0 X _ _) rfl inA12 (by decide) rfl dX12_redo_62 ?_
    exact w_iret C hw hr (so2 hf).1 (so2 hf).2 dX12_redo_65
  · replace hf := ite_t hf c1
    refine lv_bipush (v := -5) hx hb dX12_redo_7 (by decide) ?_
    exact w_iret C hw hr (so2 hf).1 (so2 hf).2 dX12_redo_9
theorem dX12_isOne_0 : decode cX12_isOne 0 = .ok (.iload_n 2, 1) := by decide +kernel
theorem dX12_isOne_1 : decode cX12_isOne 1 = .ok (.iconst 0, 1) := by decide +kernel
theorem dX12_isOne_2 : decode cX12_isOne 2 = .ok (.iconst 5, 1) := by decide +kernel
theorem dX12_isOne_3 : decode cX12_isOne 3 = .ok (.invokestatic 147, 3) := by decide +kernel
theorem dX12_isOne_6 : decode cX12_isOne 6 = .ok (.ifCond .eq 11, 3) := by decide +kernel
theorem dX12_isOne_9 : decode cX12_isOne 9 = .ok (.aload_n 0, 1) := by decide +kernel
theorem dX12_isOne_10 : decode cX12_isOne 10 = .ok (.iload_n 1, 1) := by decide +kernel
theorem dX12_isOne_11 : decode cX12_isOne 11 = .ok (.invokevirtual 194, 3) := by decide +kernel
theorem dX12_isOne_14 : decode cX12_isOne 14 = .ok (.goto 46, 3) := by decide +kernel
theorem dX12_isOne_17 : decode cX12_isOne 17 = .ok (.iload_n 2, 1) := by decide +kernel
theorem dX12_isOne_18 : decode cX12_isOne 18 = .ok (.bipush 6, 2) := by decide +kernel
theorem dX12_isOne_20 : decode cX12_isOne 20 = .ok (.bipush 9, 2) := by decide +kernel
theorem dX12_isOne_22 : decode cX12_isOne 22 = .ok (.invokestatic 147, 3) := by decide +kernel
theorem dX12_isOne_25 : decode cX12_isOne 25 = .ok (.ifCond .eq 11, 3) := by decide +kernel
theorem dX12_isOne_28 : decode cX12_isOne 28 = .ok (.aload_n 0, 1) := by decide +kernel
theorem dX12_isOne_29 : decode cX12_isOne 29 = .ok (.iload_n 1, 1) := by decide +kernel
theorem dX12_isOne_30 : decode cX12_isOne 30 = .ok (.invokevirtual 197, 3) := by decide +kernel
theorem dX12_isOne_33 : decode cX12_isOne 33 = .ok (.goto 27, 3) := by decide +kernel
theorem dX12_isOne_36 : decode cX12_isOne 36 = .ok (.iload_n 2, 1) := by decide +kernel
theorem dX12_isOne_37 : decode cX12_isOne 37 = .ok (.bipush 10, 2) := by decide +kernel
theorem dX12_isOne_39 : decode cX12_isOne 39 = .ok (.bipush 13, 2) := by decide +kernel
theorem dX12_isOne_41 : decode cX12_isOne 41 = .ok (.invokestatic 147, 3) := by decide +kernel
theorem dX12_isOne_44 : decode cX12_isOne 44 = .ok (.ifCond .eq 15, 3) := by decide +kernel
theorem dX12_isOne_47 : decode cX12_isOne 47 = .ok (.aload_n 0, 1) := by decide +kernel
theorem dX12_isOne_48 : decode cX12_isOne 48 = .ok (.iload_n 1, 1) := by decide +kernel
theorem dX12_isOne_49 : decode cX12_isOne 49 = .ok (.invokevirtual 200, 3) := by decide +kernel
theorem dX12_isOne_52 : decode cX12_isOne 52 = .ok (.ifCond .eq 7, 3) := by decide +kernel
theorem dX12_isOne_55 : decode cX12_isOne 55 = .ok (.iconst 1, 1) := by decide +kernel
theorem dX12_isOne_56 : decode cX12_isOne 56 = .ok (.goto 4, 3) := by decide +kernel
theorem dX12_isOne_59 : decode cX12_isOne 59 = .ok (.iconst 0, 1) := by decide +kernel
theorem dX12_isOne_60 : decode cX12_isOne 60 = .ok (.ireturn, 1) := by decide +kernel
theorem ok_yX12_isOne : yOk yX12_isOne 2 := ⟨by decide +kernel, by decide +kernel, by decide +kernel⟩
def fX12_isOne (st : St) (a1 : Int32) (a2 : Int32) : Bool := if bI (fX12_in a2 (0 : Int32) (5 : Int32)) = 0 then (if bI (fX12_in a2 (6 : Int32) (9 : Int32)) = 0 then (if bI (fX12_in a2 (10 : Int32) (13 : Int32)) = 0 then (false) else (if bI (fX12_isCry st a1) = 0 then (false) else (true))) else ((fX12_isFall st a1))) else ((fX12_isField st a1))
set_option maxHeartbeats 4000000 in
theorem zX12_isOne (l : Launch) (X : WX) (st : St) (a1 : Int32) (a2 : Int32) : CtI l yX12_isOne cX12_isOne 3 .boolean ({ frames := 2, cells := 0, slots := 0, locals := 43 }) EM 43 X [.ref (xq X 0), .int a1, .int a2] st (bI (fX12_isOne st a1 a2)) st := by
  generalize hf : fX12_isOne st a1 a2 = R
  refine ct_in (own := RX12) (by decide +kernel) rfl (Nat.le_of_ble_eq_true rfl) (fun p e s m below meth c C hr hw ls hl => ?_)
  obtain ⟨hx, hb, hml, hown, hts⟩ := id C.1
  have hl : lv_has ls 3 [(0, .ref (xq X 0)), (1, .int a1), (2, .int a2)] := hl
  unfold fX12_isOne at hf
  refine lv_iload_n hx hb dX12_isOne_0 rfl (lv_at hl 2 rfl) ?_
  refine lv_iconst (v := 0) hx hb dX12_isOne_1 (by decide) ?_
  refine lv_iconst (v := 5) hx hb dX12_isOne_2 (by decide) ?_
  refine w_goI hw (w_runS (rest := []) C hw (zX12_in _ _ st a2 (0 : Int32) (5 : Int32)) km_X12_147 kt_yX12_in kz_X12 kc_X12_in ok_yX12_in ⟨Nat.le_of_ble_eq_true rfl, Nat.le_of_ble_eq_true rfl⟩ rfl rfl rfl rfl hl.1 (Nat.le_of_ble_eq_true rfl) dX12_isOne_3 ⟨Nat.zero_le _, Nat.zero_le _⟩) (fun H locs hw => ?_)
  refine lv_if_eq (tgt := 17) hx hb dX12_isOne_6 (by decide) (fun c1 => ?_) (fun c1 => ?_)
  · replace hf := ite_t hf c1
    refine lv_iload_n hx hb dX12_isOne_17 rfl (lv_at hl 2 rfl) ?_
    refine lv_bipush (v := 6) hx hb dX12_isOne_18 (by decide) ?_
    refine lv_bipush (v := 9) hx hb dX12_isOne_20 (by decide) ?_
    refine w_goI hw (w_runS (rest := []) C hw (zX12_in _ _ st a2 (6 : Int32) (9 : Int32)) km_X12_147 kt_yX12_in kz_X12 kc_X12_in ok_yX12_in ⟨Nat.le_of_ble_eq_true rfl, Nat.le_of_ble_eq_true rfl⟩ rfl rfl rfl rfl hl.1 (Nat.le_of_ble_eq_true rfl) dX12_isOne_22 ⟨Nat.zero_le _, Nat.zero_le _⟩) (fun H locs hw => ?_)
    refine lv_if_eq (tgt := 36) hx hb dX12_isOne_25 (by decide) (fun c2 => ?_) (fun c2 => ?_)
    · replace hf := ite_t hf c2
      refine lv_iload_n hx hb dX12_isOne_36 rfl (lv_at hl 2 rfl) ?_
      refine lv_bipush (v := 10) hx hb dX12_isOne_37 (by decide) ?_
      refine lv_bipush (v := 13) hx hb dX12_isOne_39 (by decide) ?_
      refine w_goI hw (w_runS (rest := []) C hw (zX12_in _ _ st a2 (10 : Int32) (13 : Int32)) km_X12_147 kt_yX12_in kz_X12 kc_X12_in ok_yX12_in ⟨Nat.le_of_ble_eq_true rfl, Nat.le_of_ble_eq_true rfl⟩ rfl rfl rfl rfl hl.1 (Nat.le_of_ble_eq_true rfl) dX12_isOne_41 ⟨Nat.zero_le _, Nat.zero_le _⟩) (fun H locs hw => ?_)
      refine lv_if_eq (tgt := 59) hx hb dX12_isOne_44 (by decide) (fun c3 => ?_) (fun c3 => ?_)
      · replace hf := ite_t hf c3
        refine lv_iconst (v := 0) hx hb dX12_isOne_59 (by decide) ?_
        exact w_zret (b := false) C hw hr rfl hf rfl dX12_isOne_60
      · replace hf := ite_f hf c3
        refine lv_aload_n hx hb dX12_isOne_47 rfl (lv_at hl 0 rfl) ?_
        refine lv_iload_n hx hb dX12_isOne_48 rfl (lv_at hl 1 rfl) ?_
        refine w_goI hw (w_runV (rest := []) C hw (zX12_isCry _ _ st a1) (by decide) (EM_0 X _ _) rfl km_X12_200 ki_yX12_isCry kv_X12_isCry kz_X12 kc_X12_isCry rfl ok_yX12_isCry ⟨Nat.le_of_ble_eq_true rfl, Nat.le_of_ble_eq_true rfl⟩ rfl rfl rfl rfl hl.1 (Nat.le_of_ble_eq_true rfl) dX12_isOne_49 ⟨Nat.zero_le _, Nat.zero_le _⟩) (fun H locs hw => ?_)
        refine lv_if_eq (tgt := 59) hx hb dX12_isOne_52 (by decide) (fun c4 => ?_) (fun c4 => ?_)
        · replace hf := ite_t hf c4
          refine lv_iconst (v := 0) hx hb dX12_isOne_59 (by decide) ?_
          exact w_zret (b := false) C hw hr rfl hf rfl dX12_isOne_60
        · replace hf := ite_f hf c4
          refine lv_iconst (v := 1) hx hb dX12_isOne_55 (by decide) ?_
          refine lv_goto (tgt := 60) hx hb dX12_isOne_56 (by decide) ?_
          exact w_zret (b := true) C hw hr rfl hf rfl dX12_isOne_60
    · replace hf := ite_f hf c2
      refine lv_aload_n hx hb dX12_isOne_28 rfl (lv_at hl 0 rfl) ?_
      refine lv_iload_n hx hb dX12_isOne_29 rfl (lv_at hl 1 rfl) ?_
      refine w_goI hw (w_runV (rest := []) C hw (zX12_isFall _ _ st a1) (by decide) (EM_0 X _ _) rfl km_X12_197 ki_yX12_isFall kv_X12_isFall kz_X12 kc_X12_isFall rfl ok_yX12_isFall ⟨Nat.le_of_ble_eq_true rfl, Nat.le_of_ble_eq_true rfl⟩ rfl rfl rfl rfl hl.1 (Nat.le_of_ble_eq_true rfl) dX12_isOne_30 ⟨Nat.zero_le _, Nat.zero_le _⟩) (fun H locs hw => ?_)
      refine lv_goto (tgt := 60) hx hb dX12_isOne_33 (by decide) ?_
      exact w_zret (b := (fX12_isFall st a1)) C hw hr rfl hf rfl dX12_isOne_60
  · replace hf := ite_f hf c1
    refine lv_aload_n hx hb dX12_isOne_9 rfl (lv_at hl 0 rfl) ?_
    refine lv_iload_n hx hb dX12_isOne_10 rfl (lv_at hl 1 rfl) ?_
    refine w_goI hw (w_runV (rest := []) C hw (zX12_isField _ _ st a1) (by decide) (EM_0 X _ _) rfl km_X12_194 ki_yX12_isField kv_X12_isField kz_X12 kc_X12_isField rfl ok_yX12_isField ⟨Nat.le_of_ble_eq_true rfl, Nat.le_of_ble_eq_true rfl⟩ rfl rfl rfl rfl hl.1 (Nat.le_of_ble_eq_true rfl) dX12_isOne_11 ⟨Nat.zero_le _, Nat.zero_le _⟩) (fun H locs hw => ?_)
    refine lv_goto (tgt := 60) hx hb dX12_isOne_14 (by decide) ?_
    exact w_zret (b := (fX12_isField st a1)) C hw hr rfl hf rfl dX12_isOne_60
theorem dX12_mayBe_0 : decode cX12_mayBe 0 = .ok (.iload_n 0, 1) := by decide +kernel
theorem dX12_mayBe_1 : decode cX12_mayBe 1 = .ok (.tableswitch 131 2 13 #[63, 71, 79, 86, 131, 131, 94, 99, 106, 111, 116, 123], 63) := by decide +kernel
theorem dX12_mayBe_64 : decode cX12_mayBe 64 = .ok (.iload_n 1, 1) := by decide +kernel
theorem dX12_mayBe_65 : decode cX12_mayBe 65 = .ok (.iconst 1, 1) := by decide +kernel
theorem dX12_mayBe_66 : decode cX12_mayBe 66 = .ok (.bipush 20, 2) := by decide +kernel
theorem dX12_mayBe_68 : decode cX12_mayBe 68 = .ok (.invokestatic 147, 3) := by decide +kernel
theorem dX12_mayBe_71 : decode cX12_mayBe 71 = .ok (.ireturn, 1) := by decide +kernel
theorem dX12_mayBe_72 : decode cX12_mayBe 72 = .ok (.iload_n 1, 1) := by decide +kernel
theorem dX12_mayBe_73 : decode cX12_mayBe 73 = .ok (.iconst 1, 1) := by decide +kernel
theorem dX12_mayBe_74 : decode cX12_mayBe 74 = .ok (.bipush 20, 2) := by decide +kernel
theorem dX12_mayBe_76 : decode cX12_mayBe 76 = .ok (.invokestatic 147, 3) := by decide +kernel
theorem dX12_mayBe_79 : decode cX12_mayBe 79 = .ok (.ireturn, 1) := by decide +kernel
theorem dX12_mayBe_80 : decode cX12_mayBe 80 = .ok (.iload_n 1, 1) := by decide +kernel
theorem dX12_mayBe_81 : decode cX12_mayBe 81 = .ok (.iconst (-1), 1) := by decide +kernel
theorem dX12_mayBe_82 : decode cX12_mayBe 82 = .ok (.iconst 5, 1) := by decide +kernel
theorem dX12_mayBe_83 : decode cX12_mayBe 83 = .ok (.invokestatic 147, 3) := by decide +kernel
theorem dX12_mayBe_86 : decode cX12_mayBe 86 = .ok (.ireturn, 1) := by decide +kernel
theorem dX12_mayBe_87 : decode cX12_mayBe 87 = .ok (.iload_n 1, 1) := by decide +kernel
theorem dX12_mayBe_88 : decode cX12_mayBe 88 = .ok (.iconst 0, 1) := by decide +kernel
theorem dX12_mayBe_89 : decode cX12_mayBe 89 = .ok (.bipush 99, 2) := by decide +kernel
theorem dX12_mayBe_91 : decode cX12_mayBe 91 = .ok (.invokestatic 147, 3) := by decide +kernel
theorem dX12_mayBe_94 : decode cX12_mayBe 94 = .ok (.ireturn, 1) := by decide +kernel
theorem dX12_mayBe_95 : decode cX12_mayBe 95 = .ok (.iload_n 1, 1) := by decide +kernel
theorem dX12_mayBe_96 : decode cX12_mayBe 96 = .ok (.invokestatic 161, 3) := by decide +kernel
theorem dX12_mayBe_99 : decode cX12_mayBe 99 = .ok (.ireturn, 1) := by decide +kernel
theorem dX12_mayBe_100 : decode cX12_mayBe 100 = .ok (.iload_n 1, 1) := by decide +kernel
theorem dX12_mayBe_101 : decode cX12_mayBe 101 = .ok (.iconst 0, 1) := by decide +kernel
theorem dX12_mayBe_102 : decode cX12_mayBe 102 = .ok (.iconst 3, 1) := by decide +kernel
theorem dX12_mayBe_103 : decode cX12_mayBe 103 = .ok (.invokestatic 147, 3) := by decide +kernel
theorem dX12_mayBe_106 : decode cX12_mayBe 106 = .ok (.ireturn, 1) := by decide +kernel
theorem dX12_mayBe_107 : decode cX12_mayBe 107 = .ok (.iload_n 1, 1) := by decide +kernel
theorem dX12_mayBe_108 : decode cX12_mayBe 108 = .ok (.invokestatic 173, 3) := by decide +kernel
theorem dX12_mayBe_111 : decode cX12_mayBe 111 = .ok (.ireturn, 1) := by decide +kernel
theorem dX12_mayBe_112 : decode cX12_mayBe 112 = .ok (.iload_n 1, 1) := by decide +kernel
theorem dX12_mayBe_113 : decode cX12_mayBe 113 = .ok (.invokestatic 161, 3) := by decide +kernel
theorem dX12_mayBe_116 : decode cX12_mayBe 116 = .ok (.ireturn, 1) := by decide +kernel
theorem dX12_mayBe_117 : decode cX12_mayBe 117 = .ok (.iload_n 1, 1) := by decide +kernel
theorem dX12_mayBe_118 : decode cX12_mayBe 118 = .ok (.iconst 0, 1) := by decide +kernel
theorem dX12_mayBe_119 : decode cX12_mayBe 119 = .ok (.iconst 3, 1) := by decide +kernel
theorem dX12_mayBe_120 : decode cX12_mayBe 120 = .ok (.invokestatic 147, 3) := by decide +kernel
theorem dX12_mayBe_123 : decode cX12_mayBe 123 = .ok (.ireturn, 1) := by decide +kernel
theorem dX12_mayBe_124 : decode cX12_mayBe 124 = .ok (.iload_n 1, 1) := by decide +kernel
theorem dX12_mayBe_125 : decode cX12_mayBe 125 = .ok (.iconst 0, 1) := by decide +kernel
theorem dX12_mayBe_126 : decode cX12_mayBe 126 = .ok (.bipush 9, 2) := by decide +kernel
theorem dX12_mayBe_128 : decode cX12_mayBe 128 = .ok (.invokestatic 147, 3) := by decide +kernel
theorem dX12_mayBe_131 : decode cX12_mayBe 131 = .ok (.ireturn, 1) := by decide +kernel
theorem dX12_mayBe_132 : decode cX12_mayBe 132 = .ok (.iload_n 1, 1) := by decide +kernel
theorem dX12_mayBe_133 : decode cX12_mayBe 133 = .ok (.iconst 0, 1) := by decide +kernel
theorem dX12_mayBe_134 : decode cX12_mayBe 134 = .ok (.bipush 19, 2) := by decide +kernel
theorem dX12_mayBe_136 : decode cX12_mayBe 136 = .ok (.invokestatic 147, 3) := by decide +kernel
theorem dX12_mayBe_139 : decode cX12_mayBe 139 = .ok (.ireturn, 1) := by decide +kernel
theorem ok_yX12_mayBe : yOk yX12_mayBe 2 := ⟨by decide +kernel, by decide +kernel, by decide +kernel⟩
def fX12_mayBe (a0 : Int32) (a1 : Int32) : Bool := if a0 = 2 then ((fX12_in a1 (1 : Int32) (20 : Int32))) else (if a0 = 3 then ((fX12_in a1 (1 : Int32) (20 : Int32))) else (if a0 = 4 then ((fX12_in a1 (-1 : Int32) (5 : Int32))) else (if a0 = 5 then ((fX12_in a1 (0 : Int32) (99 : Int32))) else (if a0 = 6 then ((fX12_in a1 (0 : Int32) (19 : Int32))) else (if a0 = 7 then ((fX12_in a1 (0 : Int32) (19 : Int32))) else (if a0 = 8 then ((fX12_isMinute a1)) else (if a0 = 9 then ((fX12_in a1 (0 : Int32) (3 : Int32))) else (if a0 = 10 then ((fX12_isPerson a1)) else (if a0 = 11 then ((fX12_isMinute a1)) else (if a0 = 12 then ((fX12_in a1 (0 : Int32) (3 : Int32))) else (if a0 = 13 then ((fX12_in a1 (0 : Int32) (9 : Int32))) else ((fX12_in a1 (0 : Int32) (19 : Int32))))))))))))))
set_option maxHeartbeats 4000000 in
theorem zX12_mayBe (l : Launch) (X : WX) (st : St) (a0 : Int32) (a1 : Int32) : CtI l yX12_mayBe cX12_mayBe 2 .boolean ({ frames := 2, cells := 0, slots := 0, locals := 42 }) EM 43 X [.int a0, .int a1] st (bI (fX12_mayBe a0 a1)) st := by
  generalize hf : fX12_mayBe a0 a1 = R
  refine ct_in (own := RX12) (by decide +kernel) rfl (Nat.le_of_ble_eq_true rfl) (fun p e s m below meth c C hr hw ls hl => ?_)
  obtain ⟨hx, hb, hml, hown, hts⟩ := id C.1
  have hl : lv_has ls 2 [(0, .int a0), (1, .int a1)] := hl
  unfold fX12_mayBe at hf
  refine lv_iload_n hx hb dX12_mayBe_0 rfl (lv_at hl 0 rfl) ?_
  by_cases c1 : a0 = 2
  · replace hf := ite_t hf c1
    refine lv_tableIn (tgt := 64) hx hb dX12_mayBe_1 (by rw [c1]; decide) (by rw [c1]; decide) (by rw [c1]; rfl) (by decide) ?_
    refine lv_iload_n hx hb dX12_mayBe_64 rfl (lv_at hl 1 rfl) ?_
    refine lv_iconst (v := 1) hx hb dX12_mayBe_65 (by decide) ?_
    refine lv_bipush (v := 20) hx hb dX12_mayBe_66 (by decide) ?_
    refine w_goI hw (w_runS (rest := []) C hw (zX12_in _ _ st a1 (1 : Int32) (20 : Int32)) km_X12_147 kt_yX12_in kz_X12 kc_X12_in ok_yX12_in ⟨Nat.le_of_ble_eq_true rfl, Nat.le_of_ble_eq_true rfl⟩ rfl rfl rfl rfl hl.1 (Nat.le_of_ble_eq_true rfl) dX12_mayBe_68 ⟨Nat.zero_le _, Nat.zero_le _⟩) (fun H locs hw => ?_)
    exact w_zret (b := (fX12_in a1 (1 : Int32) (20 : Int32))) C hw hr rfl hf rfl dX12_mayBe_71
  · replace hf := ite_f hf c1
    by_cases c2 : a0 = 3
    · replace hf := ite_t hf c2
      refine lv_tableIn (tgt := 72) hx hb dX12_mayBe_1 (by rw [c2]; decide) (by rw [c2]; decide) (by rw [c2]; rfl) (by decide) ?_
      refine lv_iload_n hx hb dX12_mayBe_72 rfl (lv_at hl 1 rfl) ?_
      refine lv_iconst (v := 1) hx hb dX12_mayBe_73 (by decide) ?_
      refine lv_bipush (v := 20) hx hb dX12_mayBe_74 (by decide) ?_
      refine w_goI hw (w_runS (rest := []) C hw (zX12_in _ _ st a1 (1 : Int32) (20 : Int32)) km_X12_147 kt_yX12_in kz_X12 kc_X12_in ok_yX12_in ⟨Nat.le_of_ble_eq_true rfl, Nat.le_of_ble_eq_true rfl⟩ rfl rfl rfl rfl hl.1 (Nat.le_of_ble_eq_true rfl) dX12_mayBe_76 ⟨Nat.zero_le _, Nat.zero_le _⟩) (fun H locs hw => ?_)
      exact w_zret (b := (fX12_in a1 (1 : Int32) (20 : Int32))) C hw hr rfl hf rfl dX12_mayBe_79
    · replace hf := ite_f hf c2
      by_cases c3 : a0 = 4
      · replace hf := ite_t hf c3
        refine lv_tableIn (tgt := 80) hx hb dX12_mayBe_1 (by rw [c3]; decide) (by rw [c3]; decide) (by rw [c3]; rfl) (by decide) ?_
        refine lv_iload_n hx hb dX12_mayBe_80 rfl (lv_at hl 1 rfl) ?_
        refine lv_iconst (v := -1) hx hb dX12_mayBe_81 (by decide) ?_
        refine lv_iconst (v := 5) hx hb dX12_mayBe_82 (by decide) ?_
        refine w_goI hw (w_runS (rest := []) C hw (zX12_in _ _ st a1 (-1 : Int32) (5 : Int32)) km_X12_147 kt_yX12_in kz_X12 kc_X12_in ok_yX12_in ⟨Nat.le_of_ble_eq_true rfl, Nat.le_of_ble_eq_true rfl⟩ rfl rfl rfl rfl hl.1 (Nat.le_of_ble_eq_true rfl) dX12_mayBe_83 ⟨Nat.zero_le _, Nat.zero_le _⟩) (fun H locs hw => ?_)
        exact w_zret (b := (fX12_in a1 (-1 : Int32) (5 : Int32))) C hw hr rfl hf rfl dX12_mayBe_86
      · replace hf := ite_f hf c3
        by_cases c4 : a0 = 5
        · replace hf := ite_t hf c4
          refine lv_tableIn (tgt := 87) hx hb dX12_mayBe_1 (by rw [c4]; decide) (by rw [c4]; decide) (by rw [c4]; rfl) (by decide) ?_
          refine lv_iload_n hx hb dX12_mayBe_87 rfl (lv_at hl 1 rfl) ?_
          refine lv_iconst (v := 0) hx hb dX12_mayBe_88 (by decide) ?_
          refine lv_bipush (v := 99) hx hb dX12_mayBe_89 (by decide) ?_
          refine w_goI hw (w_runS (rest := []) C hw (zX12_in _ _ st a1 (0 : Int32) (99 : Int32)) km_X12_147 kt_yX12_in kz_X12 kc_X12_in ok_yX12_in ⟨Nat.le_of_ble_eq_true rfl, Nat.le_of_ble_eq_true rfl⟩ rfl rfl rfl rfl hl.1 (Nat.le_of_ble_eq_true rfl) dX12_mayBe_91 ⟨Nat.zero_le _, Nat.zero_le _⟩) (fun H locs hw => ?_)
          exact w_zret (b := (fX12_in a1 (0 : Int32) (99 : Int32))) C hw hr rfl hf rfl dX12_mayBe_94
        · replace hf := ite_f hf c4
          by_cases c5 : a0 = 6
          · replace hf := ite_t hf c5
            refine lv_tableIn (tgt := 132) hx hb dX12_mayBe_1 (by rw [c5]; decide) (by rw [c5]; decide) (by rw [c5]; rfl) (by decide) ?_
            refine lv_iload_n hx hb dX12_mayBe_132 rfl (lv_at hl 1 rfl) ?_
            refine lv_iconst (v := 0) hx hb dX12_mayBe_133 (by decide) ?_
            refine lv_bipush (v := 19) hx hb dX12_mayBe_134 (by decide) ?_
            refine w_goI hw (w_runS (rest := []) C hw (zX12_in _ _ st a1 (0 : Int32) (19 : Int32)) km_X12_147 kt_yX12_in kz_X12 kc_X12_in ok_yX12_in ⟨Nat.le_of_ble_eq_true rfl, Nat.le_of_ble_eq_true rfl⟩ rfl rfl rfl rfl hl.1 (Nat.le_of_ble_eq_true rfl) dX12_mayBe_136 ⟨Nat.zero_le _, Nat.zero_le _⟩) (fun H locs hw => ?_)
            exact w_zret (b := (fX12_in a1 (0 : Int32) (19 : Int32))) C hw hr rfl hf rfl dX12_mayBe_139
          · replace hf := ite_f hf c5
            by_cases c6 : a0 = 7
            · replace hf := ite_t hf c6
              refine lv_tableIn (tgt := 132) hx hb dX12_mayBe_1 (by rw [c6]; decide) (by rw [c6]; decide) (by rw [c6]; rfl) (by decide) ?_
              refine lv_iload_n hx hb dX12_mayBe_132 rfl (lv_at hl 1 rfl) ?_
              refine lv_iconst (v := 0) hx hb dX12_mayBe_133 (by decide) ?_
              refine lv_bipush (v := 19) hx hb dX12_mayBe_134 (by decide) ?_
              refine w_goI hw (w_runS (rest := []) C hw (zX12_in _ _ st a1 (0 : Int32) (19 : Int32)) km_X12_147 kt_yX12_in kz_X12 kc_X12_in ok_yX12_in ⟨Nat.le_of_ble_eq_true rfl, Nat.le_of_ble_eq_true rfl⟩ rfl rfl rfl rfl hl.1 (Nat.le_of_ble_eq_true rfl) dX12_mayBe_136 ⟨Nat.zero_le _, Nat.zero_le _⟩) (fun H locs hw => ?_)
              exact w_zret (b := (fX12_in a1 (0 : Int32) (19 : Int32))) C hw hr rfl hf rfl dX12_mayBe_139
            · replace hf := ite_f hf c6
              by_cases c7 : a0 = 8
              · replace hf := ite_t hf c7
                refine lv_tableIn (tgt := 95) hx hb dX12_mayBe_1 (by rw [c7]; decide) (by rw [c7]; decide) (by rw [c7]; rfl) (by decide) ?_
                refine lv_iload_n hx hb dX12_mayBe_95 rfl (lv_at hl 1 rfl) ?_
                refine w_goI hw (w_runS (rest := []) C hw (zX12_isMinute _ _ st a1) km_X12_161 kt_yX12_isMinute kz_X12 kc_X12_isMinute ok_yX12_isMinute ⟨Nat.le_of_ble_eq_true rfl, Nat.le_of_ble_eq_true rfl⟩ rfl rfl rfl rfl hl.1 (Nat.le_of_ble_eq_true rfl) dX12_mayBe_96 ⟨Nat.zero_le _, Nat.zero_le _⟩) (fun H locs hw => ?_)
                exact w_zret (b := (fX12_isMinute a1)) C hw hr rfl hf rfl dX12_mayBe_99
              · replace hf := ite_f hf c7
                by_cases c8 : a0 = 9
                · replace hf := ite_t hf c8
                  refine lv_tableIn (tgt := 100) hx hb dX12_mayBe_1 (by rw [c8]; decide) (by rw [c8]; decide) (by rw [c8]; rfl) (by decide) ?_
                  refine lv_iload_n hx hb dX12_mayBe_100 rfl (lv_at hl 1 rfl) ?_
                  refine lv_iconst (v := 0) hx hb dX12_mayBe_101 (by decide) ?_
                  refine lv_iconst (v := 3) hx hb dX12_mayBe_102 (by decide) ?_
                  refine w_goI hw (w_runS (rest := []) C hw (zX12_in _ _ st a1 (0 : Int32) (3 : Int32)) km_X12_147 kt_yX12_in kz_X12 kc_X12_in ok_yX12_in ⟨Nat.le_of_ble_eq_true rfl, Nat.le_of_ble_eq_true rfl⟩ rfl rfl rfl rfl hl.1 (Nat.le_of_ble_eq_true rfl) dX12_mayBe_103 ⟨Nat.zero_le _, Nat.zero_le _⟩) (fun H locs hw => ?_)
                  exact w_zret (b := (fX12_in a1 (0 : Int32) (3 : Int32))) C hw hr rfl hf rfl dX12_mayBe_106
                · replace hf := ite_f hf c8
                  by_cases c9 : a0 = 10
                  · replace hf := ite_t hf c9
                    refine lv_tableIn (tgt := 107) hx hb dX12_mayBe_1 (by rw [c9]; decide) (by rw [c9]; decide) (by rw [c9]; rfl) (by decide) ?_
                    refine lv_iload_n hx hb dX12_mayBe_107 rfl (lv_at hl 1 rfl) ?_
                    refine w_goI hw (w_runS (rest := []) C hw (zX12_isPerson _ _ st a1) km_X12_173 kt_yX12_isPerson kz_X12 kc_X12_isPerson ok_yX12_isPerson ⟨Nat.le_of_ble_eq_true rfl, Nat.le_of_ble_eq_true rfl⟩ rfl rfl rfl rfl hl.1 (Nat.le_of_ble_eq_true rfl) dX12_mayBe_108 ⟨Nat.zero_le _, Nat.zero_le _⟩) (fun H locs hw => ?_)
                    exact w_zret (b := (fX12_isPerson a1)) C hw hr rfl hf rfl dX12_mayBe_111
                  · replace hf := ite_f hf c9
                    by_cases c10 : a0 = 11
                    · replace hf := ite_t hf c10
                      refine lv_tableIn (tgt := 112) hx hb dX12_mayBe_1 (by rw [c10]; decide) (by rw [c10]; decide) (by rw [c10]; rfl) (by decide) ?_
                      refine lv_iload_n hx hb dX12_mayBe_112 rfl (lv_at hl 1 rfl) ?_
                      refine w_goI hw (w_runS (rest := []) C hw (zX12_isMinute _ _ st a1) km_X12_161 kt_yX12_isMinute kz_X12 kc_X12_isMinute ok_yX12_isMinute ⟨Nat.le_of_ble_eq_true rfl, Nat.le_of_ble_eq_true rfl⟩ rfl rfl rfl rfl hl.1 (Nat.le_of_ble_eq_true rfl) dX12_mayBe_113 ⟨Nat.zero_le _, Nat.zero_le _⟩) (fun H locs hw => ?_)
                      exact w_zret (b := (fX12_isMinute a1)) C hw hr rfl hf rfl dX12_mayBe_116
                    · replace hf := ite_f hf c10
                      by_cases c11 : a0 = 12
                      · replace hf := ite_t hf c11
                        refine lv_tableIn (tgt := 117) hx hb dX12_mayBe_1 (by rw [c11]; decide) (by rw [c11]; decide) (by rw [c11]; rfl) (by decide) ?_
                        refine lv_iload_n hx hb dX12_mayBe_117 rfl (lv_at hl 1 rfl) ?_
                        refine lv_iconst (v := 0) hx hb dX12_mayBe_118 (by decide) ?_
                        refine lv_iconst (v := 3) hx hb dX12_mayBe_119 (by decide) ?_
                        refine w_goI hw (w_runS (rest := []) C hw (zX12_in _ _ st a1 (0 : Int32) (3 : Int32)) km_X12_147 kt_yX12_in kz_X12 kc_X12_in ok_yX12_in ⟨Nat.le_of_ble_eq_true rfl, Nat.le_of_ble_eq_true rfl⟩ rfl rfl rfl rfl hl.1 (Nat.le_of_ble_eq_true rfl) dX12_mayBe_120 ⟨Nat.zero_le _, Nat.zero_le _⟩) (fun H locs hw => ?_)
                        exact w_zret (b := (fX12_in a1 (0 : Int32) (3 : Int32))) C hw hr rfl hf rfl dX12_mayBe_123
                      · replace hf := ite_f hf c11
                        by_cases c12 : a0 = 13
                        · replace hf := ite_t hf c12
                          refine lv_tableIn (tgt := 124) hx hb dX12_mayBe_1 (by rw [c12]; decide) (by rw [c12]; decide) (by rw [c12]; rfl) (by decide) ?_
                          refine lv_iload_n hx hb dX12_mayBe_124 rfl (lv_at hl 1 rfl) ?_
                          refine lv_iconst (v := 0) hx hb dX12_mayBe_125 (by decide) ?_
                          refine lv_bipush (v := 9) hx hb dX12_mayBe_126 (by decide) ?_
                          refine w_goI hw (w_runS (rest := []) C hw (zX12_in _ _ st a1 (0 : Int32) (9 : Int32)) km_X12_147 kt_yX12_in kz_X12 kc_X12_in ok_yX12_in ⟨Nat.le_of_ble_eq_true rfl, Nat.le_of_ble_eq_true rfl⟩ rfl rfl rfl rfl hl.1 (Nat.le_of_ble_eq_true rfl) dX12_mayBe_128 ⟨Nat.zero_le _, Nat.zero_le _⟩) (fun H locs hw => ?_)
                          exact w_zret (b := (fX12_in a1 (0 : Int32) (9 : Int32))) C hw hr rfl hf rfl dX12_mayBe_131
                        · replace hf := ite_f hf c12
                          refine lv_tableOut (tgt := 132) hx hb dX12_mayBe_1 (by have q0 := ne_toInt (a := 2) c1 (by decide); have q1 := ne_toInt (a := 3) c2 (by decide); have q2 := ne_toInt (a := 4) c3 (by decide); have q3 := ne_toInt (a := 5) c4 (by decide); have q4 := ne_toInt (a := 6) c5 (by decide); have q5 := ne_toInt (a := 7) c6 (by decide); have q6 := ne_toInt (a := 8) c7 (by decide); have q7 := ne_toInt (a := 9) c8 (by decide); have q8 := ne_toInt (a := 10) c9 (by decide); have q9 := ne_toInt (a := 11) c10 (by decide); have q10 := ne_toInt (a := 12) c11 (by decide); have q11 := ne_toInt (a := 13) c12 (by decide); omega) (by decide) ?_
                          refine lv_iload_n hx hb dX12_mayBe_132 rfl (lv_at hl 1 rfl) ?_
                          refine lv_iconst (v := 0) hx hb dX12_mayBe_133 (by decide) ?_
                          refine lv_bipush (v := 19) hx hb dX12_mayBe_134 (by decide) ?_
                          refine w_goI hw (w_runS (rest := []) C hw (zX12_in _ _ st a1 (0 : Int32) (19 : Int32)) km_X12_147 kt_yX12_in kz_X12 kc_X12_in ok_yX12_in ⟨Nat.le_of_ble_eq_true rfl, Nat.le_of_ble_eq_true rfl⟩ rfl rfl rfl rfl hl.1 (Nat.le_of_ble_eq_true rfl) dX12_mayBe_136 ⟨Nat.zero_le _, Nat.zero_le _⟩) (fun H locs hw => ?_)
                          exact w_zret (b := (fX12_in a1 (0 : Int32) (19 : Int32))) C hw hr rfl hf rfl dX12_mayBe_139
theorem dX12_mend_0 : decode cX12_mend 0 = .ok (.aload_n 0, 1) := by decide +kernel
theorem dX12_mend_1 : decode cX12_mend 1 = .ok (.iload_n 1, 1) := by decide +kernel
theorem dX12_mend_2 : decode cX12_mend 2 = .ok (.iload_n 2, 1) := by decide +kernel
theorem dX12_mend_3 : decode cX12_mend 3 = .ok (.invokevirtual 203, 3) := by decide +kernel
theorem dX12_mend_6 : decode cX12_mend 6 = .ok (.ifCond .eq 21, 3) := by decide +kernel
theorem dX12_mend_9 : decode cX12_mend 9 = .ok (.iload_n 2, 1) := by decide +kernel
theorem dX12_mend_10 : decode cX12_mend 10 = .ok (.iload_n 3, 1) := by decide +kernel
theorem dX12_mend_11 : decode cX12_mend 11 = .ok (.invokestatic 207, 3) := by decide +kernel
theorem dX12_mend_14 : decode cX12_mend 14 = .ok (.ifCond .eq 13, 3) := by decide +kernel
theorem dX12_mend_17 : decode cX12_mend 17 = .ok (.aload_n 0, 1) := by decide +kernel
theorem dX12_mend_18 : decode cX12_mend 18 = .ok (.iload_n 2, 1) := by decide +kernel
theorem dX12_mend_19 : decode cX12_mend 19 = .ok (.iload_n 1, 1) := by decide +kernel
theorem dX12_mend_20 : decode cX12_mend 20 = .ok (.iload_n 3, 1) := by decide +kernel
theorem dX12_mend_21 : decode cX12_mend 21 = .ok (.invokevirtual 210, 3) := by decide +kernel
theorem dX12_mend_24 : decode cX12_mend 24 = .ok (.goto 5, 3) := by decide +kernel
theorem dX12_mend_27 : decode cX12_mend 27 = .ok (.ldc 213, 2) := by decide +kernel
theorem dX12_mend_29 : decode cX12_mend 29 = .ok (.ireturn, 1) := by decide +kernel
theorem ok_yX12_mend : yOk yX12_mend 3 := ⟨by decide +kernel, by decide +kernel, by decide +kernel⟩
def fX12_mend (n : Nat) (st : St) (a1 : Int32) (a2 : Int32) (a3 : Int32) : Option (Int32 × St) := if bI (fX12_isOne st a1 a2) = 0 then (some ((-2000000000 : Int32), st)) else (if bI (fX12_mayBe a2 a3) = 0 then (some ((-2000000000 : Int32), st)) else ((fX12_changes n st a2 a1 a3).bind (fun r3 => some (r3.1, r3.2))))
set_option maxHeartbeats 4000000 in
theorem zX12_mend (l : Launch) (X : WX) (n : Nat) (st : St) (a1 : Int32) (a2 : Int32) (a3 : Int32) (R : Int32 × St) (hf : fX12_mend n st a1 a2 a3 = some R) : CtI l yX12_mend cX12_mend 4 .int ({ frames := 3, cells := 0, slots := 0, locals := 65 }) EM 43 X [.ref (xq X 0), .int a1, .int a2, .int a3] st R.1 R.2 := by
  refine ct_in (own := RX12) (by decide +kernel) rfl (Nat.le_of_ble_eq_true rfl) (fun p e s m below meth c C hr hw ls hl => ?_)
  obtain ⟨hx, hb, hml, hown, hts⟩ := id C.1
  have hl : lv_has ls 4 [(0, .ref (xq X 0)), (1, .int a1), (2, .int a2), (3, .int a3)] := hl
  unfold fX12_mend at hf
  refine lv_aload_n hx hb dX12_mend_0 rfl (lv_at hl 0 rfl) ?_
  refine lv_iload_n hx hb dX12_mend_1 rfl (lv_at hl 1 rfl) ?_
  refine lv_iload_n hx hb dX12_mend_2 rfl (lv_at hl 2 rfl) ?_
  refine w_goI hw (w_runV (rest := []) C hw (zX12_isOne _ _ st a1 a2) (by decide) (EM_0 X _ _) rfl km_X12_203 ki_yX12_isOne kv_X12_isOne kz_X12 kc_X12_isOne rfl ok_yX12_isOne ⟨Nat.le_of_ble_eq_true rfl, Nat.le_of_ble_eq_true rfl⟩ rfl rfl rfl rfl hl.1 (Nat.le_of_ble_eq_true rfl) dX12_mend_3 ⟨Nat.zero_le _, Nat.zero_le _⟩) (fun H locs hw => ?_)
  refine lv_if_eq (tgt := 27) hx hb dX12_mend_6 (by decide) (fun c1 => ?_) (fun c1 => ?_)
  · replace hf := ite_t hf c1
    refine lv_ldc (v := -2000000000) hx hb hown (hts _ kn_X12_213) dX12_mend_27 ?_
    exact w_iret C hw hr (so2 hf).1 (so2 hf).2 dX12_mend_29
  · replace hf := ite_f hf c1
    refine lv_iload_n hx hb dX12_mend_9 rfl (lv_at hl 2 rfl) ?_
    refine lv_iload_n hx hb dX12_mend_10 rfl (lv_at hl 3 rfl) ?_
    refine w_goI hw (w_runS (rest := []) C hw (zX12_mayBe _ _ st a2 a3) km_X12_207 kt_yX12_mayBe kz_X12 kc_X12_mayBe ok_yX12_mayBe ⟨Nat.le_of_ble_eq_true rfl, Nat.le_of_ble_eq_true rfl⟩ rfl rfl rfl rfl hl.1 (Nat.le_of_ble_eq_true rfl) dX12_mend_11 ⟨Nat.zero_le _, Nat.zero_le _⟩) (fun H locs hw => ?_)
    refine lv_if_eq (tgt := 27) hx hb dX12_mend_14 (by decide) (fun c2 => ?_) (fun c2 => ?_)
    · replace hf := ite_t hf c2
      refine lv_ldc (v := -2000000000) hx hb hown (hts _ kn_X12_213) dX12_mend_27 ?_
      exact w_iret C hw hr (so2 hf).1 (so2 hf).2 dX12_mend_29
    · replace hf := ite_f hf c2
      refine lv_aload_n hx hb dX12_mend_17 rfl (lv_at hl 0 rfl) ?_
      refine lv_iload_n hx hb dX12_mend_18 rfl (lv_at hl 2 rfl) ?_
      refine lv_iload_n hx hb dX12_mend_19 rfl (lv_at hl 1 rfl) ?_
      refine lv_iload_n hx hb dX12_mend_20 rfl (lv_at hl 3 rfl) ?_
      obtain ⟨r3, k4, hf⟩ := bd_some hf
      refine w_goI hw (w_runV (rest := []) C hw (zX12_changes _ _ n st a2 a1 a3 r3 k4) (by decide) (EM_0 X _ _) rfl km_X12_210 ki_yX12_changes kv_X12_changes kz_X12 kc_X12_changes rfl ok_yX12_changes ⟨Nat.le_of_ble_eq_true rfl, Nat.le_of_ble_eq_true rfl⟩ rfl rfl rfl rfl hl.1 (Nat.le_of_ble_eq_true rfl) dX12_mend_21 ⟨Nat.zero_le _, Nat.zero_le _⟩) (fun H locs hw => ?_)
      refine lv_goto (tgt := 29) hx hb dX12_mend_24 (by decide) ?_
      exact w_iret C hw hr (so2 hf).1 (so2 hf).2 dX12_mend_29
theorem dX12_of_0 : decode cX12_of 0 = .ok (.iload_n 2, 1) := by decide +kernel
theorem dX12_of_1 : decode cX12_of 1 = .ok (.bipush 14, 2) := by decide +kernel
theorem dX12_of_3 : decode cX12_of 3 = .ok (.if_icmp .ne 31, 3) := by decide +kernel
theorem dX12_of_6 : decode cX12_of 6 = .ok (.aload_n 0, 1) := by decide +kernel
theorem dX12_of_7 : decode cX12_of 7 = .ok (.iload_n 1, 1) := by decide +kernel
theorem dX12_of_8 : decode cX12_of 8 = .ok (.invokevirtual 197, 3) := by decide +kernel
theorem dX12_of_11 : decode cX12_of 11 = .ok (.ifCond .ne 8, 3) := by decide +kernel
theorem dX12_of_14 : decode cX12_of 14 = .ok (.ldc 213, 2) := by decide +kernel
theorem dX12_of_16 : decode cX12_of 16 = .ok (.goto 17, 3) := by decide +kernel
theorem dX12_of_19 : decode cX12_of 19 = .ok (.aload_n 0, 1) := by decide +kernel
theorem dX12_of_20 : decode cX12_of 20 = .ok (.getfield 99, 3) := by decide +kernel
theorem dX12_of_23 : decode cX12_of 23 = .ok (.iload_n 1, 1) := by decide +kernel
theorem dX12_of_24 : decode cX12_of 24 = .ok (.baload, 1) := by decide +kernel
theorem dX12_of_25 : decode cX12_of 25 = .ok (.ifCond .eq 7, 3) := by decide +kernel
theorem dX12_of_28 : decode cX12_of 28 = .ok (.iconst 1, 1) := by decide +kernel
theorem dX12_of_29 : decode cX12_of 29 = .ok (.goto 4, 3) := by decide +kernel
theorem dX12_of_32 : decode cX12_of 32 = .ok (.iconst 0, 1) := by decide +kernel
theorem dX12_of_33 : decode cX12_of 33 = .ok (.ireturn, 1) := by decide +kernel
theorem dX12_of_34 : decode cX12_of 34 = .ok (.aload_n 0, 1) := by decide +kernel
theorem dX12_of_35 : decode cX12_of 35 = .ok (.iload_n 1, 1) := by decide +kernel
theorem dX12_of_36 : decode cX12_of 36 = .ok (.iload_n 2, 1) := by decide +kernel
theorem dX12_of_37 : decode cX12_of 37 = .ok (.invokevirtual 203, 3) := by decide +kernel
theorem dX12_of_40 : decode cX12_of 40 = .ok (.ifCond .eq 12, 3) := by decide +kernel
theorem dX12_of_43 : decode cX12_of 43 = .ok (.aload_n 0, 1) := by decide +kernel
theorem dX12_of_44 : decode cX12_of 44 = .ok (.iload_n 2, 1) := by decide +kernel
theorem dX12_of_45 : decode cX12_of 45 = .ok (.iload_n 1, 1) := by decide +kernel
theorem dX12_of_46 : decode cX12_of 46 = .ok (.invokevirtual 180, 3) := by decide +kernel
theorem dX12_of_49 : decode cX12_of 49 = .ok (.goto 5, 3) := by decide +kernel
theorem dX12_of_52 : decode cX12_of 52 = .ok (.ldc 213, 2) := by decide +kernel
theorem dX12_of_54 : decode cX12_of 54 = .ok (.ireturn, 1) := by decide +kernel
theorem ok_yX12_of : yOk yX12_of 2 := ⟨by decide +kernel, by decide +kernel, by decide +kernel⟩
def fX12_of (st : St) (a1 : Int32) (a2 : Int32) : Option (Int32) := if a2 = (14 : Int32) then (if bI (fX12_isFall st a1) = 0 then (some (-2000000000 : Int32)) else (gd (inB a1 11) (if gI st 30 a1.toNatClampNeg = 0 then (some (0 : Int32)) else (some (1 : Int32))))) else (if bI (fX12_isOne st a1 a2) = 0 then (some (-2000000000 : Int32)) else ((fX12_valueAt st a2 a1).bind (fun r3 => some r3)))
set_option maxHeartbeats 4000000 in
theorem zX12_of (l : Launch) (X : WX) (st : St) (a1 : Int32) (a2 : Int32) (R : Int32) (hf : fX12_of st a1 a2 = some R) : CtI l yX12_of cX12_of 3 .int ({ frames := 3, cells := 0, slots := 0, locals := 65 }) EM 43 X [.ref (xq X 0), .int a1, .int a2] st R st := by
  refine ct_in (own := RX12) (by decide +kernel) rfl (Nat.le_of_ble_eq_true rfl) (fun p e s m below meth c C hr hw ls hl => ?_)
  obtain ⟨hx, hb, hml, hown, hts⟩ := id C.1
  have hl : lv_has ls 3 [(0, .ref (xq X 0)), (1, .int a1), (2, .int a2)] := hl
  unfold fX12_of at hf
  refine lv_iload_n hx hb dX12_of_0 rfl (lv_at hl 2 rfl) ?_
  refine lv_bipush (v := 14) hx hb dX12_of_1 (by decide) ?_
  refine lv_icmp_ne (tgt := 34) hx hb dX12_of_3 (by decide) (fun c1 => ?_) (fun c1 => ?_)
  · replace hf := ite_f hf c1
    refine lv_aload_n hx hb dX12_of_34 rfl (lv_at hl 0 rfl) ?_
    refine lv_iload_n hx hb dX12_of_35 rfl (lv_at hl 1 rfl) ?_
    refine lv_iload_n hx hb dX12_of_36 rfl (lv_at hl 2 rfl) ?_
    refine w_goI hw (w_runV (rest := []) C hw (zX12_isOne _ _ st a1 a2) (by decide) (EM_0 X _ _) rfl km_X12_203 ki_yX12_isOne kv_X12_isOne kz_X12 kc_X12_isOne rfl ok_yX12_isOne ⟨Nat.le_of_ble_eq_true rfl, Nat.le_of_ble_eq_true rfl⟩ rfl rfl rfl rfl hl.1 (Nat.le_of_ble_eq_true rfl) dX12_of_37 ⟨Nat.zero_le _, Nat.zero_le _⟩) (fun H locs hw => ?_)
    refine lv_if_eq (tgt := 52) hx hb dX12_of_40 (by decide) (fun c2 => ?_) (fun c2 => ?_)
    · replace hf := ite_t hf c2
      refine lv_ldc (v := -2000000000) hx hb hown (hts _ kn_X12_213) dX12_of_52 ?_
      exact w_iret C hw hr (Option.some.inj hf) rfl dX12_of_54
    · replace hf := ite_f hf c2
      refine lv_aload_n hx hb dX12_of_43 rfl (lv_at hl 0 rfl) ?_
      refine lv_iload_n hx hb dX12_of_44 rfl (lv_at hl 2 rfl) ?_
      refine lv_iload_n hx hb dX12_of_45 rfl (lv_at hl 1 rfl) ?_
      obtain ⟨r3, k4, hf⟩ := bd_some hf
      refine w_goI hw (w_runV (rest := []) C hw (zX12_valueAt _ _ st a2 a1 r3 k4) (by decide) (EM_0 X _ _) rfl km_X12_180 ki_yX12_valueAt kv_X12_valueAt kz_X12 kc_X12_valueAt rfl ok_yX12_valueAt ⟨Nat.le_of_ble_eq_true rfl, Nat.le_of_ble_eq_true rfl⟩ rfl rfl rfl rfl hl.1 (Nat.le_of_ble_eq_true rfl) dX12_of_46 ⟨Nat.zero_le _, Nat.zero_le _⟩) (fun H locs hw => ?_)
      refine lv_goto (tgt := 54) hx hb dX12_of_49 (by decide) ?_
      exact w_iret C hw hr (Option.some.inj hf) rfl dX12_of_54
  · replace hf := ite_t hf c1
    refine lv_aload_n hx hb dX12_of_6 rfl (lv_at hl 0 rfl) ?_
    refine lv_iload_n hx hb dX12_of_7 rfl (lv_at hl 1 rfl) ?_
    refine w_goI hw (w_runV (rest := []) C hw (zX12_isFall _ _ st a1) (by decide) (EM_0 X _ _) rfl km_X12_197 ki_yX12_isFall kv_X12_isFall kz_X12 kc_X12_isFall rfl ok_yX12_isFall ⟨Nat.le_of_ble_eq_true rfl, Nat.le_of_ble_eq_true rfl⟩ rfl rfl rfl rfl hl.1 (Nat.le_of_ble_eq_true rfl) dX12_of_8 ⟨Nat.zero_le _, Nat.zero_le _⟩) (fun H locs hw => ?_)
    refine lv_if_ne (tgt := 19) hx hb dX12_of_11 (by decide) (fun c5 => ?_) (fun c5 => ?_)
    · replace hf := ite_f hf c5
      refine lv_aload_n hx hb dX12_of_19 rfl (lv_at hl 0 rfl) ?_
      refine w_get (T := TX12) C hw (by decide) 41 kf_X12_99 (EM_0 X _ _) rfl inA12 (by decide) rfl dX12_of_20 ?_
      refine lv_iload_n hx hb dX12_of_23 rfl (lv_at hl 1 rfl) ?_
      obtain ⟨h6, hf⟩ := gd_some hf
      refine w_zald C hw (by decide) (EM_30 X _ _) h6 rfl dX12_of_24 ?_
      refine lv_if_eq (tgt := 32) hx hb dX12_of_25 (by decide) (fun c7 => ?_) (fun c7 => ?_)
      · replace hf := ite_t hf c7
        refine lv_iconst (v := 0) hx hb dX12_of_32 (by decide) ?_
        exact w_iret C hw hr (Option.some.inj hf) rfl dX12_of_33
      · replace hf := ite_f hf c7
        refine lv_iconst (v := 1) hx hb dX12_of_28 (by decide) ?_
        refine lv_goto (tgt := 33) hx hb dX12_of_29 (by decide) ?_
        exact w_iret C hw hr (Option.some.inj hf) rfl dX12_of_33
    · replace hf := ite_t hf c5
      refine lv_ldc (v := -2000000000) hx hb hown (hts _ kn_X12_213) dX12_of_14 ?_
      refine lv_goto (tgt := 33) hx hb dX12_of_16 (by decide) ?_
      exact w_iret C hw hr (Option.some.inj hf) rfl dX12_of_33
